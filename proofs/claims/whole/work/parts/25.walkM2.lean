set_option maxHeartbeats 4000000 in
set_option maxRecDepth 100000 in
theorem c_X3_put (l : Launch) (G : va_G) (am : Nat → Nat) (cI cZ : ClassId) (p0 : Int32) (p1 : Int32) (p2 : Int32) (u : CS) (post : Int32 → CS → Prop) (hw : wp_X3_put p0 p1 p2 u post) : CtI l yX3_put wsX3_put ({ frames := 3, cells := 0, slots := 0, locals := 74 }) G (ty2 cI cZ) (mw am cI cZ) [.ref (am 0), .int p0, .int p1, .int p2] u post := by
  refine CtI.of (cc := cX3_put) (maxL := 6) (rt := .int) (by decide) rfl (Nat.le_of_ble_eq_true rfl) ?_
  intro p e s m below meth c A Q hx hb hml hts hown hK hA hret ls hl hP hD hS
  have hiX3 : ∀ w ∈ u_ws RX3 TX3 24, w ∈ wsX3_put := by decide +kernel
  have hown : s.vm.findClass RX3 = some m.cls := hown
  have hl : lv_has ls 6 [(0, .ref (am 0)), (1, .int p0), (2, .int p1), (3, .int p2)] := hl
  unfold wp_X3_put at hw
  refine lv_aload_n hx hb dX3_put_0 rfl (lv_at hl 0 rfl) ?_
  refine lv_iconst (v := 0) hx hb dX3_put_1 (by decide) ?_
  refine va_put (D := G) (ci := 3) (v := .int 0) (ty := .int) (C := RX3) (T := TX3) (N := 24) hx hb hts hiX3 tyX3 tyX3_ok nmX3 hown hK hP hD hS 0 rfl rfl 0 (by decide) (hts (.fieldLink RX3 54 "TreapVersionsModel" "thrown" "I") (by decide +kernel)) (fun _ h9 => h9) rfl (by decide +kernel) rfl rfl (Nat.le_of_ble_eq_true rfl) dX3_put_2 (fun H locs hP hD hS => ?_)
  obtain ⟨u1, eu1⟩ : ∃ z : CS, z = cset u 0 (fun _ => 0) := ⟨_, rfl⟩
  have hP : va_P G vwCl (mw am cI cZ (cset u 0 (fun _ => 0))) H := hP
  have hD : va_D A (mw am cI cZ (cset u 0 (fun _ => 0))) := hD
  rw [← eu1] at hP hD
  have hw := stF.go hw u1 eu1
  refine lv_aload_n hx hb dX3_put_5 rfl (lv_at hl 0 rfl) ?_
  refine lv_iload_n hx hb dX3_put_6 rfl (lv_at hl 1 rfl) ?_
  refine CtI.call (As := [.int p0]) (rest := []) (c_X3_has l G am cI cZ p0 u1 _ hw) ⟨hx, hb, hml, hown, hts⟩ (cwV 1 hts gX3_put_X3_has rfl rfl rfl (by decide +kernel) ⟨Nat.le_of_ble_eq_true rfl, Nat.le_of_ble_eq_true rfl⟩) (va_recv hK hP (ci := 3) (q0 := 0) rfl rfl) hK hP hD hS hA rfl hl.1 rfl (Nat.le_of_ble_eq_true rfl) dX3_put_7 ⟨Nat.zero_le _, Nat.zero_le _⟩ (fun r3 u2 H locs hw hP hD hS => ?_)
  obtain ⟨hz, hw⟩ := hw
  refine lv_if_ne (tgt := 15) hx hb dX3_put_10 (by decide) (fun c4 => ?_) (fun c4 => ?_)
  · have hw := brN.f hw c4
    refine lv_aload_n hx hb dX3_put_15 rfl (lv_at hl 0 rfl) ?_
    refine CtI.call (As := []) (rest := []) (c_X3_freeHandle l G am cI cZ u2 _ hw) ⟨hx, hb, hml, hown, hts⟩ (cwV 0 hts gX3_put_X3_freeHandle rfl rfl rfl (by decide +kernel) ⟨Nat.le_of_ble_eq_true rfl, Nat.le_of_ble_eq_true rfl⟩) (va_recv hK hP (ci := 3) (q0 := 0) rfl rfl) hK hP hD hS hA rfl hl.1 rfl (Nat.le_of_ble_eq_true rfl) dX3_put_16 ⟨Nat.zero_le _, Nat.zero_le _⟩ (fun r6 u5 H locs hw hP hD hS => ?_)
    refine lv_istore (lv' := [(4, .int r6), (0, .ref (am 0)), (1, .int p0), (2, .int p1), (3, .int p2)]) hx hb dX3_put_19 hl (by decide) rfl (fun ls hl => ?_)
    refine lv_iload hx hb dX3_put_21 (lv_at hl 0 rfl) ?_
    refine lv_if_ge (tgt := 29) hx hb dX3_put_23 (by decide) (fun c7 => ?_) (fun c7 => ?_)
    · have hw := brN.t hw c7
      refine lv_aload_n hx hb dX3_put_29 rfl (lv_at hl 1 rfl) ?_
      refine CtV.call (As := []) (rest := []) (c_X3_begin l G am cI cZ u5 _ hw) ⟨hx, hb, hml, hown, hts⟩ (cwV 0 hts gX3_put_X3_begin rfl rfl rfl (by decide +kernel) ⟨Nat.le_of_ble_eq_true rfl, Nat.le_of_ble_eq_true rfl⟩) (va_recv hK hP (ci := 3) (q0 := 0) rfl rfl) hK hP hD hS hA rfl hl.1 rfl (Nat.le_of_ble_eq_true rfl) dX3_put_30 ⟨Nat.zero_le _, Nat.zero_le _⟩ (fun u8 H locs hw hP hD hS => ?_)
      refine lv_aload_n hx hb dX3_put_33 rfl (lv_at hl 1 rfl) ?_
      refine lv_aload_n hx hb dX3_put_34 rfl (lv_at hl 1 rfl) ?_
      refine va_get (D := G) (ci := 3) (v := .ref (am 10)) (C := RX3) (T := TX3) (N := 24) hx hb hts hiX3 hown hK hP 0 rfl rfl 16 (by decide) (hts (.fieldLink RX3 38 "TreapVersionsModel" "root" "[I") (by decide +kernel)) (fun _ h9 => h9) rfl dX3_put_35 ?_
      refine lv_iload_n hx hb dX3_put_38 rfl (lv_at hl 2 rfl) ?_
      refine va_iald hx hb hK hP 10 0 rfl rfl (rdA.hin hw) dX3_put_39 ?_
      refine lv_topi (fun z9 ez9 => ?_)
      have hw := rdA.go hw z9 ez9
      refine lv_iload_n hx hb dX3_put_40 rfl (lv_at hl 3 rfl) ?_
      refine CtI.call (As := [.int z9, .int p1]) (rest := []) (c_X3_find l G am cI cZ z9 p1 u8 _ hw) ⟨hx, hb, hml, hown, hts⟩ (cwV 2 hts gX3_put_X3_find rfl rfl rfl (by decide +kernel) ⟨Nat.le_of_ble_eq_true rfl, Nat.le_of_ble_eq_true rfl⟩) (va_recv hK hP (ci := 3) (q0 := 0) rfl rfl) hK hP hD hS hA rfl hl.1 rfl (Nat.le_of_ble_eq_true rfl) dX3_put_41 ⟨Nat.zero_le _, Nat.zero_le _⟩ (fun r11 u10 H locs hw hP hD hS => ?_)
      refine lv_if_lt (tgt := 51) hx hb dX3_put_44 (by decide) (fun c12 => ?_) (fun c12 => ?_)
      · have hw := brN.t hw c12
        refine lv_iconst (v := 0) hx hb dX3_put_51 (by decide) ?_
        refine lv_istore (lv' := [(5, .int 0), (4, .int r6), (0, .ref (am 0)), (1, .int p0), (2, .int p1), (3, .int p2)]) hx hb dX3_put_52 hl (by decide) rfl (fun ls hl => ?_)
        refine lv_aload_n hx hb dX3_put_54 rfl (lv_at hl 2 rfl) ?_
        refine lv_aload_n hx hb dX3_put_55 rfl (lv_at hl 2 rfl) ?_
        refine va_get (D := G) (ci := 3) (v := .ref (am 10)) (C := RX3) (T := TX3) (N := 24) hx hb hts hiX3 hown hK hP 0 rfl rfl 16 (by decide) (hts (.fieldLink RX3 38 "TreapVersionsModel" "root" "[I") (by decide +kernel)) (fun _ h9 => h9) rfl dX3_put_56 ?_
        refine lv_iload_n hx hb dX3_put_59 rfl (lv_at hl 3 rfl) ?_
        refine va_iald hx hb hK hP 10 0 rfl rfl (rdA.hin hw) dX3_put_60 ?_
        refine lv_topi (fun z13 ez13 => ?_)
        have hw := rdA.go hw z13 ez13
        refine lv_iload_n hx hb dX3_put_61 rfl (lv_at hl 4 rfl) ?_
        refine lv_iload hx hb dX3_put_62 (lv_at hl 0 rfl) ?_
        refine CtV.call (As := [.int z13, .int p1, .int 0]) (rest := []) (c_X3_go l G am cI cZ z13 p1 0 u10 _ hw) ⟨hx, hb, hml, hown, hts⟩ (cwV 3 hts gX3_put_X3_go rfl rfl rfl (by decide +kernel) ⟨Nat.le_of_ble_eq_true rfl, Nat.le_of_ble_eq_true rfl⟩) (va_recv hK hP (ci := 3) (q0 := 0) rfl rfl) hK hP hD hS hA rfl hl.1 rfl (Nat.le_of_ble_eq_true rfl) dX3_put_64 ⟨Nat.zero_le _, Nat.zero_le _⟩ (fun u14 H locs hw hP hD hS => ?_)
        refine lv_aload_n hx hb dX3_put_67 rfl (lv_at hl 2 rfl) ?_
        refine lv_iload hx hb dX3_put_68 (lv_at hl 0 rfl) ?_
        refine lv_if_eq (tgt := 80) hx hb dX3_put_70 (by decide) (fun c15 => ?_) (fun c15 => ?_)
        · refine lv_aload_n hx hb dX3_put_80 rfl (lv_at hl 2 rfl) ?_
          refine va_get (D := G) (ci := 3) (v := .int (u14 22 0)) (C := RX3) (T := TX3) (N := 24) hx hb hts hiX3 hown hK hP 0 rfl rfl 22 (by decide) (hts (.fieldLink RX3 88 "TreapVersionsModel" "steps" "I") (by decide +kernel)) (fun _ h9 => h9) rfl dX3_put_81 ?_
          refine lv_topi (fun z16 ez16 => ?_)
          have hw := nmI.go hw z16 ez16
          refine lv_iconst (v := 1) hx hb dX3_put_84 (by decide) ?_
          refine lv_iadd hx hb dX3_put_85 ?_
          refine lv_topi (fun z17 ez17 => ?_)
          have hw := nmI.go hw z17 ez17
          refine CtI.call (As := [.int z17]) (rest := []) (c_X3_takes l G am cI cZ z17 u14 _ hw) ⟨hx, hb, hml, hown, hts⟩ (cwV 1 hts gX3_put_X3_takes rfl rfl rfl (by decide +kernel) ⟨Nat.le_of_ble_eq_true rfl, Nat.le_of_ble_eq_true rfl⟩) (va_recv hK hP (ci := 3) (q0 := 0) rfl rfl) hK hP hD hS hA rfl hl.1 rfl (Nat.le_of_ble_eq_true rfl) dX3_put_86 ⟨Nat.zero_le _, Nat.zero_le _⟩ (fun r19 u18 H locs hw hP hD hS => ?_)
          obtain ⟨hz, hw⟩ := hw
          refine lv_if_ne (tgt := 95) hx hb dX3_put_89 (by decide) (fun c20 => ?_) (fun c20 => ?_)
          · have hw := brN.f hw c20
            refine lv_iload hx hb dX3_put_95 (lv_at hl 0 rfl) ?_
            refine lv_if_eq (tgt := 109) hx hb dX3_put_97 (by decide) (fun c21 => ?_) (fun c21 => ?_)
            · refine lv_aload_n hx hb dX3_put_109 rfl (lv_at hl 2 rfl) ?_
              refine lv_iload_n hx hb dX3_put_110 rfl (lv_at hl 4 rfl) ?_
              refine lv_iload_n hx hb dX3_put_111 rfl (lv_at hl 5 rfl) ?_
              refine CtV.call (As := [.int p1, .int p2]) (rest := []) (c_X3_putNew l G am cI cZ p1 p2 u18 _ hw) ⟨hx, hb, hml, hown, hts⟩ (cwV 2 hts gX3_put_X3_putNew rfl rfl rfl (by decide +kernel) ⟨Nat.le_of_ble_eq_true rfl, Nat.le_of_ble_eq_true rfl⟩) (va_recv hK hP (ci := 3) (q0 := 0) rfl rfl) hK hP hD hS hA rfl hl.1 rfl (Nat.le_of_ble_eq_true rfl) dX3_put_112 ⟨Nat.zero_le _, Nat.zero_le _⟩ (fun u22 H locs hw hP hD hS => ?_)
              refine lv_aload_n hx hb dX3_put_115 rfl (lv_at hl 2 rfl) ?_
              refine va_get (D := G) (ci := 3) (v := .ref (am 9)) (C := RX3) (T := TX3) (N := 24) hx hb hts hiX3 hown hK hP 0 rfl rfl 15 (by decide) (hts (.fieldLink RX3 35 "TreapVersionsModel" "isLive" "[Z") (by decide +kernel)) (fun _ h9 => h9) rfl dX3_put_116 ?_
              refine lv_iload hx hb dX3_put_119 (lv_at hl 1 rfl) ?_
              refine lv_iconst (v := 1) hx hb dX3_put_121 (by decide) ?_
              refine va_zast hx hb hK hP hD hS 9 1 rfl rfl (wrZ.hin hw) dX3_put_122 (fun H locs hP hD hS => ?_)
              obtain ⟨u23, eu23⟩ : ∃ z : CS, z = cset u22 15 (upd (u22 15) r6.toNatClampNeg (vp_nar .boolean 1)) := ⟨_, rfl⟩
              have hP : va_P G vwCl (mw am cI cZ (cset u22 15 (upd (u22 15) r6.toNatClampNeg (vp_nar .boolean 1)))) H := hP
              have hD : va_D A (mw am cI cZ (cset u22 15 (upd (u22 15) r6.toNatClampNeg (vp_nar .boolean 1)))) := hD
              rw [← eu23] at hP hD
              have hw := wrZ.go hw u23 eu23
              refine lv_aload_n hx hb dX3_put_123 rfl (lv_at hl 2 rfl) ?_
              refine va_get (D := G) (ci := 3) (v := .ref (am 10)) (C := RX3) (T := TX3) (N := 24) hx hb hts hiX3 hown hK hP 0 rfl rfl 16 (by decide) (hts (.fieldLink RX3 38 "TreapVersionsModel" "root" "[I") (by decide +kernel)) (fun _ h9 => h9) rfl dX3_put_124 ?_
              refine lv_iload hx hb dX3_put_127 (lv_at hl 1 rfl) ?_
              refine lv_aload_n hx hb dX3_put_129 rfl (lv_at hl 2 rfl) ?_
              refine va_get (D := G) (ci := 3) (v := .int (u23 19 0)) (C := RX3) (T := TX3) (N := 24) hx hb hts hiX3 hown hK hP 0 rfl rfl 19 (by decide) (hts (.fieldLink RX3 74 "TreapVersionsModel" "tree" "I") (by decide +kernel)) (fun _ h9 => h9) rfl dX3_put_130 ?_
              refine lv_topi (fun z24 ez24 => ?_)
              have hw := nmI.go hw z24 ez24
              refine va_iast hx hb hK hP hD hS 10 0 rfl rfl (wrA.hin hw) dX3_put_133 (fun H locs hP hD hS => ?_)
              obtain ⟨u25, eu25⟩ : ∃ z : CS, z = cset u23 16 (upd (u23 16) r6.toNatClampNeg z24) := ⟨_, rfl⟩
              have hP : va_P G vwCl (mw am cI cZ (cset u23 16 (upd (u23 16) r6.toNatClampNeg z24))) H := hP
              have hD : va_D A (mw am cI cZ (cset u23 16 (upd (u23 16) r6.toNatClampNeg z24))) := hD
              rw [← eu25] at hP hD
              have hw := wrA.go hw u25 eu25
              refine lv_iload hx hb dX3_put_134 (lv_at hl 1 rfl) ?_
              exact hret r6 u25 136 _ _ _ dX3_put_136 rfl hw hP hD hS
            · exact absurd (by decide) c21
          · have hw := brN.t hw c20
            refine lv_bipush (v := (-3)) hx hb dX3_put_92 (by decide) ?_
            exact hret (-3) u18 94 _ _ _ dX3_put_94 rfl hw hP hD hS
        · exact absurd (by decide) c15
      · have hw := brN.f hw c12
        refine lv_iconst (v := 1) hx hb dX3_put_47 (by decide) ?_
        refine lv_goto (tgt := 52) hx hb dX3_put_48 (by decide) ?_
        refine lv_istore (lv' := [(5, .int 1), (4, .int r6), (0, .ref (am 0)), (1, .int p0), (2, .int p1), (3, .int p2)]) hx hb dX3_put_52 hl (by decide) rfl (fun ls hl => ?_)
        refine lv_aload_n hx hb dX3_put_54 rfl (lv_at hl 2 rfl) ?_
        refine lv_aload_n hx hb dX3_put_55 rfl (lv_at hl 2 rfl) ?_
        refine va_get (D := G) (ci := 3) (v := .ref (am 10)) (C := RX3) (T := TX3) (N := 24) hx hb hts hiX3 hown hK hP 0 rfl rfl 16 (by decide) (hts (.fieldLink RX3 38 "TreapVersionsModel" "root" "[I") (by decide +kernel)) (fun _ h9 => h9) rfl dX3_put_56 ?_
        refine lv_iload_n hx hb dX3_put_59 rfl (lv_at hl 3 rfl) ?_
        refine va_iald hx hb hK hP 10 0 rfl rfl (rdA.hin hw) dX3_put_60 ?_
        refine lv_topi (fun z26 ez26 => ?_)
        have hw := rdA.go hw z26 ez26
        refine lv_iload_n hx hb dX3_put_61 rfl (lv_at hl 4 rfl) ?_
        refine lv_iload hx hb dX3_put_62 (lv_at hl 0 rfl) ?_
        refine CtV.call (As := [.int z26, .int p1, .int 1]) (rest := []) (c_X3_go l G am cI cZ z26 p1 1 u10 _ hw) ⟨hx, hb, hml, hown, hts⟩ (cwV 3 hts gX3_put_X3_go rfl rfl rfl (by decide +kernel) ⟨Nat.le_of_ble_eq_true rfl, Nat.le_of_ble_eq_true rfl⟩) (va_recv hK hP (ci := 3) (q0 := 0) rfl rfl) hK hP hD hS hA rfl hl.1 rfl (Nat.le_of_ble_eq_true rfl) dX3_put_64 ⟨Nat.zero_le _, Nat.zero_le _⟩ (fun u27 H locs hw hP hD hS => ?_)
        refine lv_aload_n hx hb dX3_put_67 rfl (lv_at hl 2 rfl) ?_
        refine lv_iload hx hb dX3_put_68 (lv_at hl 0 rfl) ?_
        refine lv_if_eq (tgt := 80) hx hb dX3_put_70 (by decide) (fun c28 => ?_) (fun c28 => ?_)
        · exact absurd c28 (by decide)
        · refine lv_aload_n hx hb dX3_put_73 rfl (lv_at hl 2 rfl) ?_
          refine va_get (D := G) (ci := 3) (v := .int (u27 22 0)) (C := RX3) (T := TX3) (N := 24) hx hb hts hiX3 hown hK hP 0 rfl rfl 22 (by decide) (hts (.fieldLink RX3 88 "TreapVersionsModel" "steps" "I") (by decide +kernel)) (fun _ h9 => h9) rfl dX3_put_74 ?_
          refine lv_topi (fun z29 ez29 => ?_)
          have hw := nmI.go hw z29 ez29
          refine lv_goto (tgt := 86) hx hb dX3_put_77 (by decide) ?_
          refine CtI.call (As := [.int z29]) (rest := []) (c_X3_takes l G am cI cZ z29 u27 _ hw) ⟨hx, hb, hml, hown, hts⟩ (cwV 1 hts gX3_put_X3_takes rfl rfl rfl (by decide +kernel) ⟨Nat.le_of_ble_eq_true rfl, Nat.le_of_ble_eq_true rfl⟩) (va_recv hK hP (ci := 3) (q0 := 0) rfl rfl) hK hP hD hS hA rfl hl.1 rfl (Nat.le_of_ble_eq_true rfl) dX3_put_86 ⟨Nat.zero_le _, Nat.zero_le _⟩ (fun r31 u30 H locs hw hP hD hS => ?_)
          obtain ⟨hz, hw⟩ := hw
          refine lv_if_ne (tgt := 95) hx hb dX3_put_89 (by decide) (fun c32 => ?_) (fun c32 => ?_)
          · have hw := brN.f hw c32
            refine lv_iload hx hb dX3_put_95 (lv_at hl 0 rfl) ?_
            refine lv_if_eq (tgt := 109) hx hb dX3_put_97 (by decide) (fun c33 => ?_) (fun c33 => ?_)
            · exact absurd c33 (by decide)
            · refine lv_aload_n hx hb dX3_put_100 rfl (lv_at hl 2 rfl) ?_
              refine lv_iload_n hx hb dX3_put_101 rfl (lv_at hl 4 rfl) ?_
              refine lv_iload_n hx hb dX3_put_102 rfl (lv_at hl 5 rfl) ?_
              refine CtV.call (As := [.int p1, .int p2]) (rest := []) (c_X3_putValue l G am cI cZ p1 p2 u30 _ hw) ⟨hx, hb, hml, hown, hts⟩ (cwV 2 hts gX3_put_X3_putValue rfl rfl rfl (by decide +kernel) ⟨Nat.le_of_ble_eq_true rfl, Nat.le_of_ble_eq_true rfl⟩) (va_recv hK hP (ci := 3) (q0 := 0) rfl rfl) hK hP hD hS hA rfl hl.1 rfl (Nat.le_of_ble_eq_true rfl) dX3_put_103 ⟨Nat.zero_le _, Nat.zero_le _⟩ (fun u34 H locs hw hP hD hS => ?_)
              refine lv_goto (tgt := 115) hx hb dX3_put_106 (by decide) ?_
              refine lv_aload_n hx hb dX3_put_115 rfl (lv_at hl 2 rfl) ?_
              refine va_get (D := G) (ci := 3) (v := .ref (am 9)) (C := RX3) (T := TX3) (N := 24) hx hb hts hiX3 hown hK hP 0 rfl rfl 15 (by decide) (hts (.fieldLink RX3 35 "TreapVersionsModel" "isLive" "[Z") (by decide +kernel)) (fun _ h9 => h9) rfl dX3_put_116 ?_
              refine lv_iload hx hb dX3_put_119 (lv_at hl 1 rfl) ?_
              refine lv_iconst (v := 1) hx hb dX3_put_121 (by decide) ?_
              refine va_zast hx hb hK hP hD hS 9 1 rfl rfl (wrZ.hin hw) dX3_put_122 (fun H locs hP hD hS => ?_)
              obtain ⟨u35, eu35⟩ : ∃ z : CS, z = cset u34 15 (upd (u34 15) r6.toNatClampNeg (vp_nar .boolean 1)) := ⟨_, rfl⟩
              have hP : va_P G vwCl (mw am cI cZ (cset u34 15 (upd (u34 15) r6.toNatClampNeg (vp_nar .boolean 1)))) H := hP
              have hD : va_D A (mw am cI cZ (cset u34 15 (upd (u34 15) r6.toNatClampNeg (vp_nar .boolean 1)))) := hD
              rw [← eu35] at hP hD
              have hw := wrZ.go hw u35 eu35
              refine lv_aload_n hx hb dX3_put_123 rfl (lv_at hl 2 rfl) ?_
              refine va_get (D := G) (ci := 3) (v := .ref (am 10)) (C := RX3) (T := TX3) (N := 24) hx hb hts hiX3 hown hK hP 0 rfl rfl 16 (by decide) (hts (.fieldLink RX3 38 "TreapVersionsModel" "root" "[I") (by decide +kernel)) (fun _ h9 => h9) rfl dX3_put_124 ?_
              refine lv_iload hx hb dX3_put_127 (lv_at hl 1 rfl) ?_
              refine lv_aload_n hx hb dX3_put_129 rfl (lv_at hl 2 rfl) ?_
              refine va_get (D := G) (ci := 3) (v := .int (u35 19 0)) (C := RX3) (T := TX3) (N := 24) hx hb hts hiX3 hown hK hP 0 rfl rfl 19 (by decide) (hts (.fieldLink RX3 74 "TreapVersionsModel" "tree" "I") (by decide +kernel)) (fun _ h9 => h9) rfl dX3_put_130 ?_
              refine lv_topi (fun z36 ez36 => ?_)
              have hw := nmI.go hw z36 ez36
              refine va_iast hx hb hK hP hD hS 10 0 rfl rfl (wrA.hin hw) dX3_put_133 (fun H locs hP hD hS => ?_)
              obtain ⟨u37, eu37⟩ : ∃ z : CS, z = cset u35 16 (upd (u35 16) r6.toNatClampNeg z36) := ⟨_, rfl⟩
              have hP : va_P G vwCl (mw am cI cZ (cset u35 16 (upd (u35 16) r6.toNatClampNeg z36))) H := hP
              have hD : va_D A (mw am cI cZ (cset u35 16 (upd (u35 16) r6.toNatClampNeg z36))) := hD
              rw [← eu37] at hP hD
              have hw := wrA.go hw u37 eu37
              refine lv_iload hx hb dX3_put_134 (lv_at hl 1 rfl) ?_
              exact hret r6 u37 136 _ _ _ dX3_put_136 rfl hw hP hD hS
          · have hw := brN.t hw c32
            refine lv_bipush (v := (-3)) hx hb dX3_put_92 (by decide) ?_
            exact hret (-3) u30 94 _ _ _ dX3_put_94 rfl hw hP hD hS
    · have hw := brN.f hw c7
      refine lv_bipush (v := (-2)) hx hb dX3_put_26 (by decide) ?_
      exact hret (-2) u5 28 _ _ _ dX3_put_28 rfl hw hP hD hS
  · have hw := brN.t hw c4
    refine lv_iconst (v := (-1)) hx hb dX3_put_13 (by decide) ?_
    exact hret (-1) u2 14 _ _ _ dX3_put_14 rfl hw hP hD hS
set_option maxHeartbeats 4000000 in
set_option maxRecDepth 100000 in
theorem c_X3_joint (l : Launch) (G : va_G) (am : Nat → Nat) (cI cZ : ClassId) (p0 : Int32) (p1 : Int32) (u : CS) (post : CS → Prop) (hw : wp_X3_joint p0 p1 u post) : CtV l yX3_joint wsX3_joint ({ frames := 2, cells := 0, slots := 0, locals := 47 }) G (ty2 cI cZ) (mw am cI cZ) [.ref (am 0), .int p0, .int p1] u post := by
  refine CtV.of (cc := cX3_joint) (maxL := 7) (by decide) rfl (Nat.le_of_ble_eq_true rfl) ?_
  intro p e s m below meth c A Q hx hb hml hts hown hK hA hret ls hl hP hD hS
  have hiX3 : ∀ w ∈ u_ws RX3 TX3 24, w ∈ wsX3_joint := by decide +kernel
  have hown : s.vm.findClass RX3 = some m.cls := hown
  have hl : lv_has ls 7 [(0, .ref (am 0)), (1, .int p0), (2, .int p1)] := hl
  have hlp5 : ∀ (n : Nat) (a3 : Int32) (a4 : Int32) (u : CS), lp_X3_joint_5 post n a3 a4 u → ∀ (H : Heap) (locs : List Loc), va_P G vwCl (mw am cI cZ u) H → va_D A (mw am cI cZ u) → va_S A s.heap H locs → ∀ ls : Array Slot, lv_has ls 7 [(0, .ref (am 0)), (3, .int a3), (4, .int a4)] → W p l e ({ frames := 2, cells := 0, slots := 0, locals := 47 }) s m ([.ref (am 0), .int p0, .int p1] : List Value).toArray below meth c H locs 0 0 Q (F0 m 5 ls []) := by
    clear hw hl hP hD hS
    intro n
    induction n with
    | zero => intro a3 a4 u hw; exact False.elim hw
    | succ n ih =>
      intro a3 a4 u hw H locs hP hD hS ls hl
      unfold lp_X3_joint_5 at hw
      refine lv_iload_n hx hb dX3_joint_5 rfl (lv_at hl 1 rfl) ?_
      refine lv_if_lt (tgt := 92) hx hb dX3_joint_6 (by decide) (fun c1 => ?_) (fun c1 => ?_)
      · have hw := brN.t hw c1
        refine lv_aload_n hx hb dX3_joint_92 rfl (lv_at hl 0 rfl) ?_
        refine lv_iload_n hx hb dX3_joint_93 rfl (lv_at hl 1 rfl) ?_
        refine lv_if_lt (tgt := 101) hx hb dX3_joint_94 (by decide) (fun c2 => ?_) (fun c2 => ?_)
        · have hw := brN.t hw c2
          refine lv_iload hx hb dX3_joint_101 (lv_at hl 2 rfl) ?_
          refine CtV.call (As := [.int a4]) (rest := []) (c_X3_hang l G am cI cZ a4 u _ hw) ⟨hx, hb, hml, hown, hts⟩ (cwV 1 hts gX3_joint_X3_hang rfl rfl rfl (by decide +kernel) ⟨Nat.le_of_ble_eq_true rfl, Nat.le_of_ble_eq_true rfl⟩) (va_recv hK hP (ci := 3) (q0 := 0) rfl rfl) hK hP hD hS hA rfl hl.1 rfl (Nat.le_of_ble_eq_true rfl) dX3_joint_103 ⟨Nat.zero_le _, Nat.zero_le _⟩ (fun u3 H locs hw hP hD hS => ?_)
          exact hret u3 106 _ _ _ dX3_joint_106 hw hP hD hS
        · have hw := brN.f hw c2
          refine lv_iload_n hx hb dX3_joint_97 rfl (lv_at hl 1 rfl) ?_
          refine lv_goto (tgt := 103) hx hb dX3_joint_98 (by decide) ?_
          refine CtV.call (As := [.int a3]) (rest := []) (c_X3_hang l G am cI cZ a3 u _ hw) ⟨hx, hb, hml, hown, hts⟩ (cwV 1 hts gX3_joint_X3_hang rfl rfl rfl (by decide +kernel) ⟨Nat.le_of_ble_eq_true rfl, Nat.le_of_ble_eq_true rfl⟩) (va_recv hK hP (ci := 3) (q0 := 0) rfl rfl) hK hP hD hS hA rfl hl.1 rfl (Nat.le_of_ble_eq_true rfl) dX3_joint_103 ⟨Nat.zero_le _, Nat.zero_le _⟩ (fun u4 H locs hw hP hD hS => ?_)
          exact hret u4 106 _ _ _ dX3_joint_106 hw hP hD hS
      · have hw := brN.f hw c1
        refine lv_iload hx hb dX3_joint_9 (lv_at hl 2 rfl) ?_
        refine lv_if_lt (tgt := 92) hx hb dX3_joint_11 (by decide) (fun c5 => ?_) (fun c5 => ?_)
        · have hw := brN.t hw c5
          refine lv_aload_n hx hb dX3_joint_92 rfl (lv_at hl 0 rfl) ?_
          refine lv_iload_n hx hb dX3_joint_93 rfl (lv_at hl 1 rfl) ?_
          refine lv_if_lt (tgt := 101) hx hb dX3_joint_94 (by decide) (fun c6 => ?_) (fun c6 => ?_)
          · have hw := brN.t hw c6
            refine lv_iload hx hb dX3_joint_101 (lv_at hl 2 rfl) ?_
            refine CtV.call (As := [.int a4]) (rest := []) (c_X3_hang l G am cI cZ a4 u _ hw) ⟨hx, hb, hml, hown, hts⟩ (cwV 1 hts gX3_joint_X3_hang rfl rfl rfl (by decide +kernel) ⟨Nat.le_of_ble_eq_true rfl, Nat.le_of_ble_eq_true rfl⟩) (va_recv hK hP (ci := 3) (q0 := 0) rfl rfl) hK hP hD hS hA rfl hl.1 rfl (Nat.le_of_ble_eq_true rfl) dX3_joint_103 ⟨Nat.zero_le _, Nat.zero_le _⟩ (fun u7 H locs hw hP hD hS => ?_)
            exact hret u7 106 _ _ _ dX3_joint_106 hw hP hD hS
          · have hw := brN.f hw c6
            refine lv_iload_n hx hb dX3_joint_97 rfl (lv_at hl 1 rfl) ?_
            refine lv_goto (tgt := 103) hx hb dX3_joint_98 (by decide) ?_
            refine CtV.call (As := [.int a3]) (rest := []) (c_X3_hang l G am cI cZ a3 u _ hw) ⟨hx, hb, hml, hown, hts⟩ (cwV 1 hts gX3_joint_X3_hang rfl rfl rfl (by decide +kernel) ⟨Nat.le_of_ble_eq_true rfl, Nat.le_of_ble_eq_true rfl⟩) (va_recv hK hP (ci := 3) (q0 := 0) rfl rfl) hK hP hD hS hA rfl hl.1 rfl (Nat.le_of_ble_eq_true rfl) dX3_joint_103 ⟨Nat.zero_le _, Nat.zero_le _⟩ (fun u8 H locs hw hP hD hS => ?_)
            exact hret u8 106 _ _ _ dX3_joint_106 hw hP hD hS
        · have hw := brN.f hw c5
          refine lv_aload_n hx hb dX3_joint_14 rfl (lv_at hl 0 rfl) ?_
          refine lv_iload_n hx hb dX3_joint_15 rfl (lv_at hl 1 rfl) ?_
          refine lv_iload hx hb dX3_joint_16 (lv_at hl 2 rfl) ?_
          refine CtI.call (As := [.int a3, .int a4]) (rest := []) (c_X3_above l G am cI cZ a3 a4 u _ hw) ⟨hx, hb, hml, hown, hts⟩ (cwV 2 hts gX3_joint_X3_above rfl rfl rfl (by decide +kernel) ⟨Nat.le_of_ble_eq_true rfl, Nat.le_of_ble_eq_true rfl⟩) (va_recv hK hP (ci := 3) (q0 := 0) rfl rfl) hK hP hD hS hA rfl hl.1 rfl (Nat.le_of_ble_eq_true rfl) dX3_joint_18 ⟨Nat.zero_le _, Nat.zero_le _⟩ (fun r10 u9 H locs hw hP hD hS => ?_)
          obtain ⟨hz, hw⟩ := hw
          refine lv_istore (lv' := [(5, .int r10), (0, .ref (am 0)), (3, .int a3), (4, .int a4)]) hx hb dX3_joint_21 hl (by decide) rfl (fun ls hl => ?_)
          refine lv_aload_n hx hb dX3_joint_23 rfl (lv_at hl 1 rfl) ?_
          refine lv_iload hx hb dX3_joint_24 (lv_at hl 0 rfl) ?_
          refine lv_if_eq (tgt := 33) hx hb dX3_joint_26 (by decide) (fun c11 => ?_) (fun c11 => ?_)
          · have hw := brN.t hw c11
            refine lv_iload hx hb dX3_joint_33 (lv_at hl 3 rfl) ?_
            refine CtI.call (As := [.int a4]) (rest := []) (c_X3_copy l G am cI cZ a4 u9 _ hw) ⟨hx, hb, hml, hown, hts⟩ (cwV 1 hts gX3_joint_X3_copy rfl rfl rfl (by decide +kernel) ⟨Nat.le_of_ble_eq_true rfl, Nat.le_of_ble_eq_true rfl⟩) (va_recv hK hP (ci := 3) (q0 := 0) rfl rfl) hK hP hD hS hA rfl hl.1 rfl (Nat.le_of_ble_eq_true rfl) dX3_joint_35 ⟨Nat.zero_le _, Nat.zero_le _⟩ (fun r13 u12 H locs hw hP hD hS => ?_)
            refine lv_istore (lv' := [(6, .int r13), (5, .int r10), (0, .ref (am 0)), (3, .int a3), (4, .int a4)]) hx hb dX3_joint_38 hl (by decide) rfl (fun ls hl => ?_)
            refine lv_aload_n hx hb dX3_joint_40 rfl (lv_at hl 2 rfl) ?_
            refine lv_iload hx hb dX3_joint_41 (lv_at hl 0 rfl) ?_
            refine CtV.call (As := [.int r13]) (rest := []) (c_X3_hang l G am cI cZ r13 u12 _ hw) ⟨hx, hb, hml, hown, hts⟩ (cwV 1 hts gX3_joint_X3_hang rfl rfl rfl (by decide +kernel) ⟨Nat.le_of_ble_eq_true rfl, Nat.le_of_ble_eq_true rfl⟩) (va_recv hK hP (ci := 3) (q0 := 0) rfl rfl) hK hP hD hS hA rfl hl.1 rfl (Nat.le_of_ble_eq_true rfl) dX3_joint_43 ⟨Nat.zero_le _, Nat.zero_le _⟩ (fun u14 H locs hw hP hD hS => ?_)
            refine lv_aload_n hx hb dX3_joint_46 rfl (lv_at hl 2 rfl) ?_
            refine lv_iload hx hb dX3_joint_47 (lv_at hl 0 rfl) ?_
            refine lv_iload hx hb dX3_joint_49 (lv_at hl 1 rfl) ?_
            refine CtV.call (As := [.int r13, .int r10]) (rest := []) (c_X3_holeAt l G am cI cZ r13 r10 u14 _ hw) ⟨hx, hb, hml, hown, hts⟩ (cwV 2 hts gX3_joint_X3_holeAt rfl rfl rfl (by decide +kernel) ⟨Nat.le_of_ble_eq_true rfl, Nat.le_of_ble_eq_true rfl⟩) (va_recv hK hP (ci := 3) (q0 := 0) rfl rfl) hK hP hD hS hA rfl hl.1 rfl (Nat.le_of_ble_eq_true rfl) dX3_joint_51 ⟨Nat.zero_le _, Nat.zero_le _⟩ (fun u15 H locs hw hP hD hS => ?_)
            refine lv_iload hx hb dX3_joint_54 (lv_at hl 1 rfl) ?_
            refine lv_if_eq (tgt := 68) hx hb dX3_joint_56 (by decide) (fun c16 => ?_) (fun c16 => ?_)
            · have hw := brN.t hw c16
              refine lv_iload_n hx hb dX3_joint_68 rfl (lv_at hl 3 rfl) ?_
              refine lv_istore_n (lv' := [(3, .int a3), (6, .int r13), (5, .int r10), (0, .ref (am 0)), (4, .int a4)]) hx hb dX3_joint_69 rfl hl (by decide) rfl (fun ls hl => ?_)
              refine lv_iload hx hb dX3_joint_70 (lv_at hl 2 rfl) ?_
              refine lv_if_eq (tgt := 80) hx hb dX3_joint_72 (by decide) (fun c17 => ?_) (fun c17 => ?_)
              · have hw := brN.t hw c17
                refine lv_aload_n hx hb dX3_joint_80 rfl (lv_at hl 3 rfl) ?_
                refine va_get (D := G) (ci := 3) (v := .ref (am 4)) (C := RX3) (T := TX3) (N := 24) hx hb hts hiX3 hown hK hP 0 rfl rfl 9 (by decide) (hts (.fieldLink RX3 19 "TreapVersionsModel" "left" "[I") (by decide +kernel)) (fun _ h9 => h9) rfl dX3_joint_81 ?_
                refine lv_iload hx hb dX3_joint_84 (lv_at hl 4 rfl) ?_
                refine va_iald hx hb hK hP 4 0 rfl rfl (rdA.hin hw) dX3_joint_86 ?_
                refine lv_topi (fun z18 ez18 => ?_)
                have hw := rdA.go hw z18 ez18
                refine lv_istore (lv' := [(4, .int z18), (3, .int a3), (6, .int r13), (5, .int r10), (0, .ref (am 0))]) hx hb dX3_joint_87 hl (by decide) rfl (fun ls hl => ?_)
                refine lv_goto (tgt := 5) hx hb dX3_joint_89 (by decide) ?_
                exact ih a3 z18 u15 hw _ _ hP hD hS _ (lv_sub hl [4, 1, 0] rfl)
              · have hw := brN.f hw c17
                refine lv_iload hx hb dX3_joint_75 (lv_at hl 4 rfl) ?_
                refine lv_goto (tgt := 87) hx hb dX3_joint_77 (by decide) ?_
                refine lv_istore (lv' := [(4, .int a4), (3, .int a3), (6, .int r13), (5, .int r10), (0, .ref (am 0))]) hx hb dX3_joint_87 hl (by decide) rfl (fun ls hl => ?_)
                refine lv_goto (tgt := 5) hx hb dX3_joint_89 (by decide) ?_
                exact ih a3 a4 u15 hw _ _ hP hD hS _ (lv_sub hl [4, 1, 0] rfl)
            · have hw := brN.f hw c16
              refine lv_aload_n hx hb dX3_joint_59 rfl (lv_at hl 2 rfl) ?_
              refine va_get (D := G) (ci := 3) (v := .ref (am 5)) (C := RX3) (T := TX3) (N := 24) hx hb hts hiX3 hown hK hP 0 rfl rfl 10 (by decide) (hts (.fieldLink RX3 22 "TreapVersionsModel" "right" "[I") (by decide +kernel)) (fun _ h9 => h9) rfl dX3_joint_60 ?_
              refine lv_iload_n hx hb dX3_joint_63 rfl (lv_at hl 3 rfl) ?_
              refine va_iald hx hb hK hP 5 0 rfl rfl (rdA.hin hw) dX3_joint_64 ?_
              refine lv_topi (fun z19 ez19 => ?_)
              have hw := rdA.go hw z19 ez19
              refine lv_goto (tgt := 69) hx hb dX3_joint_65 (by decide) ?_
              refine lv_istore_n (lv' := [(3, .int z19), (6, .int r13), (5, .int r10), (0, .ref (am 0)), (4, .int a4)]) hx hb dX3_joint_69 rfl hl (by decide) rfl (fun ls hl => ?_)
              refine lv_iload hx hb dX3_joint_70 (lv_at hl 2 rfl) ?_
              refine lv_if_eq (tgt := 80) hx hb dX3_joint_72 (by decide) (fun c20 => ?_) (fun c20 => ?_)
              · have hw := brN.t hw c20
                refine lv_aload_n hx hb dX3_joint_80 rfl (lv_at hl 3 rfl) ?_
                refine va_get (D := G) (ci := 3) (v := .ref (am 4)) (C := RX3) (T := TX3) (N := 24) hx hb hts hiX3 hown hK hP 0 rfl rfl 9 (by decide) (hts (.fieldLink RX3 19 "TreapVersionsModel" "left" "[I") (by decide +kernel)) (fun _ h9 => h9) rfl dX3_joint_81 ?_
                refine lv_iload hx hb dX3_joint_84 (lv_at hl 4 rfl) ?_
                refine va_iald hx hb hK hP 4 0 rfl rfl (rdA.hin hw) dX3_joint_86 ?_
                refine lv_topi (fun z21 ez21 => ?_)
                have hw := rdA.go hw z21 ez21
                refine lv_istore (lv' := [(4, .int z21), (3, .int z19), (6, .int r13), (5, .int r10), (0, .ref (am 0))]) hx hb dX3_joint_87 hl (by decide) rfl (fun ls hl => ?_)
                refine lv_goto (tgt := 5) hx hb dX3_joint_89 (by decide) ?_
                exact ih z19 z21 u15 hw _ _ hP hD hS _ (lv_sub hl [4, 1, 0] rfl)
              · have hw := brN.f hw c20
                refine lv_iload hx hb dX3_joint_75 (lv_at hl 4 rfl) ?_
                refine lv_goto (tgt := 87) hx hb dX3_joint_77 (by decide) ?_
                refine lv_istore (lv' := [(4, .int a4), (3, .int z19), (6, .int r13), (5, .int r10), (0, .ref (am 0))]) hx hb dX3_joint_87 hl (by decide) rfl (fun ls hl => ?_)
                refine lv_goto (tgt := 5) hx hb dX3_joint_89 (by decide) ?_
                exact ih z19 a4 u15 hw _ _ hP hD hS _ (lv_sub hl [4, 1, 0] rfl)
          · have hw := brN.f hw c11
            refine lv_iload_n hx hb dX3_joint_29 rfl (lv_at hl 2 rfl) ?_
            refine lv_goto (tgt := 35) hx hb dX3_joint_30 (by decide) ?_
            refine CtI.call (As := [.int a3]) (rest := []) (c_X3_copy l G am cI cZ a3 u9 _ hw) ⟨hx, hb, hml, hown, hts⟩ (cwV 1 hts gX3_joint_X3_copy rfl rfl rfl (by decide +kernel) ⟨Nat.le_of_ble_eq_true rfl, Nat.le_of_ble_eq_true rfl⟩) (va_recv hK hP (ci := 3) (q0 := 0) rfl rfl) hK hP hD hS hA rfl hl.1 rfl (Nat.le_of_ble_eq_true rfl) dX3_joint_35 ⟨Nat.zero_le _, Nat.zero_le _⟩ (fun r23 u22 H locs hw hP hD hS => ?_)
            refine lv_istore (lv' := [(6, .int r23), (5, .int r10), (0, .ref (am 0)), (3, .int a3), (4, .int a4)]) hx hb dX3_joint_38 hl (by decide) rfl (fun ls hl => ?_)
            refine lv_aload_n hx hb dX3_joint_40 rfl (lv_at hl 2 rfl) ?_
            refine lv_iload hx hb dX3_joint_41 (lv_at hl 0 rfl) ?_
            refine CtV.call (As := [.int r23]) (rest := []) (c_X3_hang l G am cI cZ r23 u22 _ hw) ⟨hx, hb, hml, hown, hts⟩ (cwV 1 hts gX3_joint_X3_hang rfl rfl rfl (by decide +kernel) ⟨Nat.le_of_ble_eq_true rfl, Nat.le_of_ble_eq_true rfl⟩) (va_recv hK hP (ci := 3) (q0 := 0) rfl rfl) hK hP hD hS hA rfl hl.1 rfl (Nat.le_of_ble_eq_true rfl) dX3_joint_43 ⟨Nat.zero_le _, Nat.zero_le _⟩ (fun u24 H locs hw hP hD hS => ?_)
            refine lv_aload_n hx hb dX3_joint_46 rfl (lv_at hl 2 rfl) ?_
            refine lv_iload hx hb dX3_joint_47 (lv_at hl 0 rfl) ?_
            refine lv_iload hx hb dX3_joint_49 (lv_at hl 1 rfl) ?_
            refine CtV.call (As := [.int r23, .int r10]) (rest := []) (c_X3_holeAt l G am cI cZ r23 r10 u24 _ hw) ⟨hx, hb, hml, hown, hts⟩ (cwV 2 hts gX3_joint_X3_holeAt rfl rfl rfl (by decide +kernel) ⟨Nat.le_of_ble_eq_true rfl, Nat.le_of_ble_eq_true rfl⟩) (va_recv hK hP (ci := 3) (q0 := 0) rfl rfl) hK hP hD hS hA rfl hl.1 rfl (Nat.le_of_ble_eq_true rfl) dX3_joint_51 ⟨Nat.zero_le _, Nat.zero_le _⟩ (fun u25 H locs hw hP hD hS => ?_)
            refine lv_iload hx hb dX3_joint_54 (lv_at hl 1 rfl) ?_
            refine lv_if_eq (tgt := 68) hx hb dX3_joint_56 (by decide) (fun c26 => ?_) (fun c26 => ?_)
            · have hw := brN.t hw c26
              refine lv_iload_n hx hb dX3_joint_68 rfl (lv_at hl 3 rfl) ?_
              refine lv_istore_n (lv' := [(3, .int a3), (6, .int r23), (5, .int r10), (0, .ref (am 0)), (4, .int a4)]) hx hb dX3_joint_69 rfl hl (by decide) rfl (fun ls hl => ?_)
              refine lv_iload hx hb dX3_joint_70 (lv_at hl 2 rfl) ?_
              refine lv_if_eq (tgt := 80) hx hb dX3_joint_72 (by decide) (fun c27 => ?_) (fun c27 => ?_)
              · have hw := brN.t hw c27
                refine lv_aload_n hx hb dX3_joint_80 rfl (lv_at hl 3 rfl) ?_
                refine va_get (D := G) (ci := 3) (v := .ref (am 4)) (C := RX3) (T := TX3) (N := 24) hx hb hts hiX3 hown hK hP 0 rfl rfl 9 (by decide) (hts (.fieldLink RX3 19 "TreapVersionsModel" "left" "[I") (by decide +kernel)) (fun _ h9 => h9) rfl dX3_joint_81 ?_
                refine lv_iload hx hb dX3_joint_84 (lv_at hl 4 rfl) ?_
                refine va_iald hx hb hK hP 4 0 rfl rfl (rdA.hin hw) dX3_joint_86 ?_
                refine lv_topi (fun z28 ez28 => ?_)
                have hw := rdA.go hw z28 ez28
                refine lv_istore (lv' := [(4, .int z28), (3, .int a3), (6, .int r23), (5, .int r10), (0, .ref (am 0))]) hx hb dX3_joint_87 hl (by decide) rfl (fun ls hl => ?_)
                refine lv_goto (tgt := 5) hx hb dX3_joint_89 (by decide) ?_
                exact ih a3 z28 u25 hw _ _ hP hD hS _ (lv_sub hl [4, 1, 0] rfl)
              · have hw := brN.f hw c27
                refine lv_iload hx hb dX3_joint_75 (lv_at hl 4 rfl) ?_
                refine lv_goto (tgt := 87) hx hb dX3_joint_77 (by decide) ?_
                refine lv_istore (lv' := [(4, .int a4), (3, .int a3), (6, .int r23), (5, .int r10), (0, .ref (am 0))]) hx hb dX3_joint_87 hl (by decide) rfl (fun ls hl => ?_)
                refine lv_goto (tgt := 5) hx hb dX3_joint_89 (by decide) ?_
                exact ih a3 a4 u25 hw _ _ hP hD hS _ (lv_sub hl [4, 1, 0] rfl)
            · have hw := brN.f hw c26
              refine lv_aload_n hx hb dX3_joint_59 rfl (lv_at hl 2 rfl) ?_
              refine va_get (D := G) (ci := 3) (v := .ref (am 5)) (C := RX3) (T := TX3) (N := 24) hx hb hts hiX3 hown hK hP 0 rfl rfl 10 (by decide) (hts (.fieldLink RX3 22 "TreapVersionsModel" "right" "[I") (by decide +kernel)) (fun _ h9 => h9) rfl dX3_joint_60 ?_
              refine lv_iload_n hx hb dX3_joint_63 rfl (lv_at hl 3 rfl) ?_
              refine va_iald hx hb hK hP 5 0 rfl rfl (rdA.hin hw) dX3_joint_64 ?_
              refine lv_topi (fun z29 ez29 => ?_)
              have hw := rdA.go hw z29 ez29
              refine lv_goto (tgt := 69) hx hb dX3_joint_65 (by decide) ?_
              refine lv_istore_n (lv' := [(3, .int z29), (6, .int r23), (5, .int r10), (0, .ref (am 0)), (4, .int a4)]) hx hb dX3_joint_69 rfl hl (by decide) rfl (fun ls hl => ?_)
              refine lv_iload hx hb dX3_joint_70 (lv_at hl 2 rfl) ?_
              refine lv_if_eq (tgt := 80) hx hb dX3_joint_72 (by decide) (fun c30 => ?_) (fun c30 => ?_)
              · have hw := brN.t hw c30
                refine lv_aload_n hx hb dX3_joint_80 rfl (lv_at hl 3 rfl) ?_
                refine va_get (D := G) (ci := 3) (v := .ref (am 4)) (C := RX3) (T := TX3) (N := 24) hx hb hts hiX3 hown hK hP 0 rfl rfl 9 (by decide) (hts (.fieldLink RX3 19 "TreapVersionsModel" "left" "[I") (by decide +kernel)) (fun _ h9 => h9) rfl dX3_joint_81 ?_
                refine lv_iload hx hb dX3_joint_84 (lv_at hl 4 rfl) ?_
                refine va_iald hx hb hK hP 4 0 rfl rfl (rdA.hin hw) dX3_joint_86 ?_
                refine lv_topi (fun z31 ez31 => ?_)
                have hw := rdA.go hw z31 ez31
                refine lv_istore (lv' := [(4, .int z31), (3, .int z29), (6, .int r23), (5, .int r10), (0, .ref (am 0))]) hx hb dX3_joint_87 hl (by decide) rfl (fun ls hl => ?_)
                refine lv_goto (tgt := 5) hx hb dX3_joint_89 (by decide) ?_
                exact ih z29 z31 u25 hw _ _ hP hD hS _ (lv_sub hl [4, 1, 0] rfl)
              · have hw := brN.f hw c30
                refine lv_iload hx hb dX3_joint_75 (lv_at hl 4 rfl) ?_
                refine lv_goto (tgt := 87) hx hb dX3_joint_77 (by decide) ?_
                refine lv_istore (lv' := [(4, .int a4), (3, .int z29), (6, .int r23), (5, .int r10), (0, .ref (am 0))]) hx hb dX3_joint_87 hl (by decide) rfl (fun ls hl => ?_)
                refine lv_goto (tgt := 5) hx hb dX3_joint_89 (by decide) ?_
                exact ih z29 a4 u25 hw _ _ hP hD hS _ (lv_sub hl [4, 1, 0] rfl)
  unfold wp_X3_joint at hw
  refine lv_iload_n hx hb dX3_joint_0 rfl (lv_at hl 1 rfl) ?_
  refine lv_istore_n (lv' := [(3, .int p0), (0, .ref (am 0)), (1, .int p0), (2, .int p1)]) hx hb dX3_joint_1 rfl hl (by decide) rfl (fun ls hl => ?_)
  refine lv_iload_n hx hb dX3_joint_2 rfl (lv_at hl 3 rfl) ?_
  refine lv_istore (lv' := [(4, .int p1), (3, .int p0), (0, .ref (am 0)), (1, .int p0), (2, .int p1)]) hx hb dX3_joint_3 hl (by decide) rfl (fun ls hl => ?_)
  obtain ⟨n9, hw⟩ := hw
  exact hlp5 n9 p0 p1 u hw _ _ hP hD hS _ (lv_sub hl [2, 1, 0] rfl)
set_option maxHeartbeats 4000000 in
set_option maxRecDepth 100000 in
theorem c_X3_remove (l : Launch) (G : va_G) (am : Nat → Nat) (cI cZ : ClassId) (p0 : Int32) (p1 : Int32) (u : CS) (post : Int32 → CS → Prop) (hw : wp_X3_remove p0 p1 u post) : CtI l yX3_remove wsX3_remove ({ frames := 4, cells := 0, slots := 0, locals := 88 }) G (ty2 cI cZ) (mw am cI cZ) [.ref (am 0), .int p0, .int p1] u post := by
  refine CtI.of (cc := cX3_remove) (maxL := 7) (rt := .int) (by decide) rfl (Nat.le_of_ble_eq_true rfl) ?_
  intro p e s m below meth c A Q hx hb hml hts hown hK hA hret ls hl hP hD hS
  have hiX3 : ∀ w ∈ u_ws RX3 TX3 24, w ∈ wsX3_remove := by decide +kernel
  have hown : s.vm.findClass RX3 = some m.cls := hown
  have hl : lv_has ls 7 [(0, .ref (am 0)), (1, .int p0), (2, .int p1)] := hl
  have hlp80 : ∀ (n : Nat) (a2 : Int32) (a3 : Int32) (a4 : Int32) (a5 : Int32) (u : CS), lp_X3_remove_80 post n a2 a3 a4 a5 u → ∀ (H : Heap) (locs : List Loc), va_P G vwCl (mw am cI cZ u) H → va_D A (mw am cI cZ u) → va_S A s.heap H locs → ∀ ls : Array Slot, lv_has ls 7 [(0, .ref (am 0)), (2, .int a2), (3, .int a3), (4, .int a4), (5, .int a5)] → W p l e ({ frames := 4, cells := 0, slots := 0, locals := 88 }) s m ([.ref (am 0), .int p0, .int p1] : List Value).toArray below meth c H locs 0 0 Q (F0 m 80 ls []) := by
    clear hw hl hP hD hS
    intro n
    induction n with
    | zero => intro a2 a3 a4 a5 u hw; exact False.elim hw
    | succ n ih =>
      intro a2 a3 a4 a5 u hw H locs hP hD hS ls hl
      unfold lp_X3_remove_80 at hw
      refine lv_iload hx hb dX3_remove_80 (lv_at hl 4 rfl) ?_
      refine lv_aload_n hx hb dX3_remove_82 rfl (lv_at hl 0 rfl) ?_
      refine va_get (D := G) (ci := 3) (v := .int (u 22 0)) (C := RX3) (T := TX3) (N := 24) hx hb hts hiX3 hown hK hP 0 rfl rfl 22 (by decide) (hts (.fieldLink RX3 88 "TreapVersionsModel" "steps" "I") (by decide +kernel)) (fun _ h9 => h9) rfl dX3_remove_83 ?_
      refine lv_topi (fun z15 ez15 => ?_)
      have hw := nmI.go hw z15 ez15
      refine lv_iconst (v := 1) hx hb dX3_remove_86 (by decide) ?_
      refine lv_isub hx hb dX3_remove_87 ?_
      refine lv_topi (fun z16 ez16 => ?_)
      have hw := nmI.go hw z16 ez16
      refine lv_icmp_ge (tgt := 138) hx hb dX3_remove_88 (by decide) (fun c17 => ?_) (fun c17 => ?_)
      · have hw := brN.t hw c17
        refine lv_aload_n hx hb dX3_remove_138 rfl (lv_at hl 0 rfl) ?_
        refine lv_aload_n hx hb dX3_remove_139 rfl (lv_at hl 0 rfl) ?_
        refine va_get (D := G) (ci := 3) (v := .ref (am 4)) (C := RX3) (T := TX3) (N := 24) hx hb hts hiX3 hown hK hP 0 rfl rfl 9 (by decide) (hts (.fieldLink RX3 19 "TreapVersionsModel" "left" "[I") (by decide +kernel)) (fun _ h9 => h9) rfl dX3_remove_140 ?_
        refine lv_iload hx hb dX3_remove_143 (lv_at hl 3 rfl) ?_
        refine va_iald hx hb hK hP 4 0 rfl rfl (rdA.hin hw) dX3_remove_145 ?_
        refine lv_topi (fun z18 ez18 => ?_)
        have hw := rdA.go hw z18 ez18
        refine lv_aload_n hx hb dX3_remove_146 rfl (lv_at hl 0 rfl) ?_
        refine va_get (D := G) (ci := 3) (v := .ref (am 5)) (C := RX3) (T := TX3) (N := 24) hx hb hts hiX3 hown hK hP 0 rfl rfl 10 (by decide) (hts (.fieldLink RX3 22 "TreapVersionsModel" "right" "[I") (by decide +kernel)) (fun _ h9 => h9) rfl dX3_remove_147 ?_
        refine lv_iload hx hb dX3_remove_150 (lv_at hl 3 rfl) ?_
        refine va_iald hx hb hK hP 5 0 rfl rfl (rdA.hin hw) dX3_remove_152 ?_
        refine lv_topi (fun z19 ez19 => ?_)
        have hw := rdA.go hw z19 ez19
        refine CtV.call (As := [.int z18, .int z19]) (rest := []) (c_X3_joint l G am cI cZ z18 z19 u _ hw) ⟨hx, hb, hml, hown, hts⟩ (cwV 2 hts gX3_remove_X3_joint rfl rfl rfl (by decide +kernel) ⟨Nat.le_of_ble_eq_true rfl, Nat.le_of_ble_eq_true rfl⟩) (va_recv hK hP (ci := 3) (q0 := 0) rfl rfl) hK hP hD hS hA rfl hl.1 rfl (Nat.le_of_ble_eq_true rfl) dX3_remove_153 ⟨Nat.zero_le _, Nat.zero_le _⟩ (fun u20 H locs hw hP hD hS => ?_)
        refine lv_aload_n hx hb dX3_remove_156 rfl (lv_at hl 0 rfl) ?_
        refine lv_iload_n hx hb dX3_remove_157 rfl (lv_at hl 2 rfl) ?_
        refine CtI.call (As := [.int a3]) (rest := []) (c_X3_settle l G am cI cZ a3 u20 _ hw) ⟨hx, hb, hml, hown, hts⟩ (cwV 1 hts gX3_remove_X3_settle rfl rfl rfl (by decide +kernel) ⟨Nat.le_of_ble_eq_true rfl, Nat.le_of_ble_eq_true rfl⟩) (va_recv hK hP (ci := 3) (q0 := 0) rfl rfl) hK hP hD hS hA rfl hl.1 rfl (Nat.le_of_ble_eq_true rfl) dX3_remove_158 ⟨Nat.zero_le _, Nat.zero_le _⟩ (fun r22 u21 H locs hw hP hD hS => ?_)
        exact hret r22 u21 161 _ _ _ dX3_remove_161 rfl hw hP hD hS
      · have hw := brN.f hw c17
        refine lv_aload_n hx hb dX3_remove_91 rfl (lv_at hl 0 rfl) ?_
        refine lv_aload_n hx hb dX3_remove_92 rfl (lv_at hl 0 rfl) ?_
        refine va_get (D := G) (ci := 3) (v := .ref (am 11)) (C := RX3) (T := TX3) (N := 24) hx hb hts hiX3 hown hK hP 0 rfl rfl 23 (by decide) (hts (.fieldLink RX3 41 "TreapVersionsModel" "way" "[I") (by decide +kernel)) (fun _ h9 => h9) rfl dX3_remove_93 ?_
        refine lv_iload hx hb dX3_remove_96 (lv_at hl 4 rfl) ?_
        refine va_iald hx hb hK hP 11 0 rfl rfl (rdA.hin hw) dX3_remove_98 ?_
        refine lv_topi (fun z23 ez23 => ?_)
        have hw := rdA.go hw z23 ez23
        refine CtI.call (As := [.int z23]) (rest := []) (c_X3_copy l G am cI cZ z23 u _ hw) ⟨hx, hb, hml, hown, hts⟩ (cwV 1 hts gX3_remove_X3_copy rfl rfl rfl (by decide +kernel) ⟨Nat.le_of_ble_eq_true rfl, Nat.le_of_ble_eq_true rfl⟩) (va_recv hK hP (ci := 3) (q0 := 0) rfl rfl) hK hP hD hS hA rfl hl.1 rfl (Nat.le_of_ble_eq_true rfl) dX3_remove_99 ⟨Nat.zero_le _, Nat.zero_le _⟩ (fun r25 u24 H locs hw hP hD hS => ?_)
        refine lv_istore (lv' := [(6, .int r25), (0, .ref (am 0)), (2, .int a2), (3, .int a3), (4, .int a4), (5, .int a5)]) hx hb dX3_remove_102 hl (by decide) rfl (fun ls hl => ?_)
        refine lv_aload_n hx hb dX3_remove_104 rfl (lv_at hl 1 rfl) ?_
        refine lv_iload hx hb dX3_remove_105 (lv_at hl 0 rfl) ?_
        refine CtV.call (As := [.int r25]) (rest := []) (c_X3_hang l G am cI cZ r25 u24 _ hw) ⟨hx, hb, hml, hown, hts⟩ (cwV 1 hts gX3_remove_X3_hang rfl rfl rfl (by decide +kernel) ⟨Nat.le_of_ble_eq_true rfl, Nat.le_of_ble_eq_true rfl⟩) (va_recv hK hP (ci := 3) (q0 := 0) rfl rfl) hK hP hD hS hA rfl hl.1 rfl (Nat.le_of_ble_eq_true rfl) dX3_remove_107 ⟨Nat.zero_le _, Nat.zero_le _⟩ (fun u26 H locs hw hP hD hS => ?_)
        refine lv_aload_n hx hb dX3_remove_110 rfl (lv_at hl 1 rfl) ?_
        refine lv_iload hx hb dX3_remove_111 (lv_at hl 0 rfl) ?_
        refine lv_aload_n hx hb dX3_remove_113 rfl (lv_at hl 1 rfl) ?_
        refine va_get (D := G) (ci := 3) (v := .ref (am 1)) (C := RX3) (T := TX3) (N := 24) hx hb hts hiX3 hown hK hP 0 rfl rfl 6 (by decide) (hts (.fieldLink RX3 7 "TreapVersionsModel" "key" "[I") (by decide +kernel)) (fun _ h9 => h9) rfl dX3_remove_114 ?_
        refine lv_iload hx hb dX3_remove_117 (lv_at hl 0 rfl) ?_
        refine va_iald hx hb hK hP 1 0 rfl rfl (rdA.hin hw) dX3_remove_119 ?_
        refine lv_topi (fun z27 ez27 => ?_)
        have hw := rdA.go hw z27 ez27
        refine lv_iload_n hx hb dX3_remove_120 rfl (lv_at hl 2 rfl) ?_
        refine lv_icmp_ge (tgt := 128) hx hb dX3_remove_121 (by decide) (fun c28 => ?_) (fun c28 => ?_)
        · have hw := brN.t hw c28
          refine lv_iconst (v := 0) hx hb dX3_remove_128 (by decide) ?_
          refine CtV.call (As := [.int r25, .int 0]) (rest := []) (c_X3_holeAt l G am cI cZ r25 0 u26 _ hw) ⟨hx, hb, hml, hown, hts⟩ (cwV 2 hts gX3_remove_X3_holeAt rfl rfl rfl (by decide +kernel) ⟨Nat.le_of_ble_eq_true rfl, Nat.le_of_ble_eq_true rfl⟩) (va_recv hK hP (ci := 3) (q0 := 0) rfl rfl) hK hP hD hS hA rfl hl.1 rfl (Nat.le_of_ble_eq_true rfl) dX3_remove_129 ⟨Nat.zero_le _, Nat.zero_le _⟩ (fun u29 H locs hw hP hD hS => ?_)
          obtain ⟨z30, ez30⟩ : ∃ y : Int32, y = a5 + 1 := ⟨_, rfl⟩
          have hw := nmI.go hw z30 ez30
          refine lv_iinc (v := z30) (lv' := [(5, .int z30), (6, .int r25), (0, .ref (am 0)), (2, .int a2), (3, .int a3), (4, .int a4)]) hx hb dX3_remove_132 hl (k := 5) rfl (by rw [ez30]; rfl) (by decide) rfl (fun ls hl => ?_)
          refine lv_goto (tgt := 80) hx hb dX3_remove_135 (by decide) ?_
          exact ih a2 a3 a4 z30 u29 hw _ _ hP hD hS _ (lv_sub hl [2, 3, 4, 5, 0] rfl)
        · have hw := brN.f hw c28
          refine lv_iconst (v := 1) hx hb dX3_remove_124 (by decide) ?_
          refine lv_goto (tgt := 129) hx hb dX3_remove_125 (by decide) ?_
          refine CtV.call (As := [.int r25, .int 1]) (rest := []) (c_X3_holeAt l G am cI cZ r25 1 u26 _ hw) ⟨hx, hb, hml, hown, hts⟩ (cwV 2 hts gX3_remove_X3_holeAt rfl rfl rfl (by decide +kernel) ⟨Nat.le_of_ble_eq_true rfl, Nat.le_of_ble_eq_true rfl⟩) (va_recv hK hP (ci := 3) (q0 := 0) rfl rfl) hK hP hD hS hA rfl hl.1 rfl (Nat.le_of_ble_eq_true rfl) dX3_remove_129 ⟨Nat.zero_le _, Nat.zero_le _⟩ (fun u31 H locs hw hP hD hS => ?_)
          obtain ⟨z32, ez32⟩ : ∃ y : Int32, y = a5 + 1 := ⟨_, rfl⟩
          have hw := nmI.go hw z32 ez32
          refine lv_iinc (v := z32) (lv' := [(5, .int z32), (6, .int r25), (0, .ref (am 0)), (2, .int a2), (3, .int a3), (4, .int a4)]) hx hb dX3_remove_132 hl (k := 5) rfl (by rw [ez32]; rfl) (by decide) rfl (fun ls hl => ?_)
          refine lv_goto (tgt := 80) hx hb dX3_remove_135 (by decide) ?_
          exact ih a2 a3 a4 z32 u31 hw _ _ hP hD hS _ (lv_sub hl [2, 3, 4, 5, 0] rfl)
  unfold wp_X3_remove at hw
  refine lv_aload_n hx hb dX3_remove_0 rfl (lv_at hl 0 rfl) ?_
  refine lv_iconst (v := 0) hx hb dX3_remove_1 (by decide) ?_
  refine va_put (D := G) (ci := 3) (v := .int 0) (ty := .int) (C := RX3) (T := TX3) (N := 24) hx hb hts hiX3 tyX3 tyX3_ok nmX3 hown hK hP hD hS 0 rfl rfl 0 (by decide) (hts (.fieldLink RX3 54 "TreapVersionsModel" "thrown" "I") (by decide +kernel)) (fun _ h9 => h9) rfl (by decide +kernel) rfl rfl (Nat.le_of_ble_eq_true rfl) dX3_remove_2 (fun H locs hP hD hS => ?_)
  obtain ⟨u1, eu1⟩ : ∃ z : CS, z = cset u 0 (fun _ => 0) := ⟨_, rfl⟩
  have hP : va_P G vwCl (mw am cI cZ (cset u 0 (fun _ => 0))) H := hP
  have hD : va_D A (mw am cI cZ (cset u 0 (fun _ => 0))) := hD
  rw [← eu1] at hP hD
  have hw := stF.go hw u1 eu1
  refine lv_aload_n hx hb dX3_remove_5 rfl (lv_at hl 0 rfl) ?_
  refine lv_iload_n hx hb dX3_remove_6 rfl (lv_at hl 1 rfl) ?_
  refine CtI.call (As := [.int p0]) (rest := []) (c_X3_has l G am cI cZ p0 u1 _ hw) ⟨hx, hb, hml, hown, hts⟩ (cwV 1 hts gX3_remove_X3_has rfl rfl rfl (by decide +kernel) ⟨Nat.le_of_ble_eq_true rfl, Nat.le_of_ble_eq_true rfl⟩) (va_recv hK hP (ci := 3) (q0 := 0) rfl rfl) hK hP hD hS hA rfl hl.1 rfl (Nat.le_of_ble_eq_true rfl) dX3_remove_7 ⟨Nat.zero_le _, Nat.zero_le _⟩ (fun r3 u2 H locs hw hP hD hS => ?_)
  obtain ⟨hz, hw⟩ := hw
  refine lv_if_ne (tgt := 15) hx hb dX3_remove_10 (by decide) (fun c4 => ?_) (fun c4 => ?_)
  · have hw := brN.f hw c4
    refine lv_aload_n hx hb dX3_remove_15 rfl (lv_at hl 0 rfl) ?_
    refine CtI.call (As := []) (rest := []) (c_X3_freeHandle l G am cI cZ u2 _ hw) ⟨hx, hb, hml, hown, hts⟩ (cwV 0 hts gX3_remove_X3_freeHandle rfl rfl rfl (by decide +kernel) ⟨Nat.le_of_ble_eq_true rfl, Nat.le_of_ble_eq_true rfl⟩) (va_recv hK hP (ci := 3) (q0 := 0) rfl rfl) hK hP hD hS hA rfl hl.1 rfl (Nat.le_of_ble_eq_true rfl) dX3_remove_16 ⟨Nat.zero_le _, Nat.zero_le _⟩ (fun r6 u5 H locs hw hP hD hS => ?_)
    refine lv_istore_n (lv' := [(3, .int r6), (0, .ref (am 0)), (1, .int p0), (2, .int p1)]) hx hb dX3_remove_19 rfl hl (by decide) rfl (fun ls hl => ?_)
    refine lv_iload_n hx hb dX3_remove_20 rfl (lv_at hl 0 rfl) ?_
    refine lv_if_ge (tgt := 27) hx hb dX3_remove_21 (by decide) (fun c7 => ?_) (fun c7 => ?_)
    · have hw := brN.t hw c7
      refine lv_aload_n hx hb dX3_remove_27 rfl (lv_at hl 1 rfl) ?_
      refine CtV.call (As := []) (rest := []) (c_X3_begin l G am cI cZ u5 _ hw) ⟨hx, hb, hml, hown, hts⟩ (cwV 0 hts gX3_remove_X3_begin rfl rfl rfl (by decide +kernel) ⟨Nat.le_of_ble_eq_true rfl, Nat.le_of_ble_eq_true rfl⟩) (va_recv hK hP (ci := 3) (q0 := 0) rfl rfl) hK hP hD hS hA rfl hl.1 rfl (Nat.le_of_ble_eq_true rfl) dX3_remove_28 ⟨Nat.zero_le _, Nat.zero_le _⟩ (fun u8 H locs hw hP hD hS => ?_)
      refine lv_aload_n hx hb dX3_remove_31 rfl (lv_at hl 1 rfl) ?_
      refine lv_aload_n hx hb dX3_remove_32 rfl (lv_at hl 1 rfl) ?_
      refine va_get (D := G) (ci := 3) (v := .ref (am 10)) (C := RX3) (T := TX3) (N := 24) hx hb hts hiX3 hown hK hP 0 rfl rfl 16 (by decide) (hts (.fieldLink RX3 38 "TreapVersionsModel" "root" "[I") (by decide +kernel)) (fun _ h9 => h9) rfl dX3_remove_33 ?_
      refine lv_iload_n hx hb dX3_remove_36 rfl (lv_at hl 2 rfl) ?_
      refine va_iald hx hb hK hP 10 0 rfl rfl (rdA.hin hw) dX3_remove_37 ?_
      refine lv_topi (fun z9 ez9 => ?_)
      have hw := rdA.go hw z9 ez9
      refine lv_iload_n hx hb dX3_remove_38 rfl (lv_at hl 3 rfl) ?_
      refine CtI.call (As := [.int z9, .int p1]) (rest := []) (c_X3_find l G am cI cZ z9 p1 u8 _ hw) ⟨hx, hb, hml, hown, hts⟩ (cwV 2 hts gX3_remove_X3_find rfl rfl rfl (by decide +kernel) ⟨Nat.le_of_ble_eq_true rfl, Nat.le_of_ble_eq_true rfl⟩) (va_recv hK hP (ci := 3) (q0 := 0) rfl rfl) hK hP hD hS hA rfl hl.1 rfl (Nat.le_of_ble_eq_true rfl) dX3_remove_39 ⟨Nat.zero_le _, Nat.zero_le _⟩ (fun r11 u10 H locs hw hP hD hS => ?_)
      refine lv_istore (lv' := [(4, .int r11), (3, .int r6), (0, .ref (am 0)), (1, .int p0), (2, .int p1)]) hx hb dX3_remove_42 hl (by decide) rfl (fun ls hl => ?_)
      refine lv_iload hx hb dX3_remove_44 (lv_at hl 0 rfl) ?_
      refine lv_if_ge (tgt := 65) hx hb dX3_remove_46 (by decide) (fun c12 => ?_) (fun c12 => ?_)
      · have hw := brN.t hw c12
        refine lv_aload_n hx hb dX3_remove_65 rfl (lv_at hl 2 rfl) ?_
        refine lv_aload_n hx hb dX3_remove_66 rfl (lv_at hl 2 rfl) ?_
        refine va_get (D := G) (ci := 3) (v := .ref (am 10)) (C := RX3) (T := TX3) (N := 24) hx hb hts hiX3 hown hK hP 0 rfl rfl 16 (by decide) (hts (.fieldLink RX3 38 "TreapVersionsModel" "root" "[I") (by decide +kernel)) (fun _ h9 => h9) rfl dX3_remove_67 ?_
        refine lv_iload_n hx hb dX3_remove_70 rfl (lv_at hl 3 rfl) ?_
        refine va_iald hx hb hK hP 10 0 rfl rfl (rdA.hin hw) dX3_remove_71 ?_
        refine lv_topi (fun z13 ez13 => ?_)
        have hw := rdA.go hw z13 ez13
        refine lv_iload_n hx hb dX3_remove_72 rfl (lv_at hl 4 rfl) ?_
        refine lv_iconst (v := 1) hx hb dX3_remove_73 (by decide) ?_
        refine CtV.call (As := [.int z13, .int p1, .int 1]) (rest := []) (c_X3_go l G am cI cZ z13 p1 1 u10 _ hw) ⟨hx, hb, hml, hown, hts⟩ (cwV 3 hts gX3_remove_X3_go rfl rfl rfl (by decide +kernel) ⟨Nat.le_of_ble_eq_true rfl, Nat.le_of_ble_eq_true rfl⟩) (va_recv hK hP (ci := 3) (q0 := 0) rfl rfl) hK hP hD hS hA rfl hl.1 rfl (Nat.le_of_ble_eq_true rfl) dX3_remove_74 ⟨Nat.zero_le _, Nat.zero_le _⟩ (fun u14 H locs hw hP hD hS => ?_)
        refine lv_iconst (v := 0) hx hb dX3_remove_77 (by decide) ?_
        refine lv_istore (lv' := [(5, .int 0), (4, .int r11), (3, .int r6), (0, .ref (am 0)), (1, .int p0), (2, .int p1)]) hx hb dX3_remove_78 hl (by decide) rfl (fun ls hl => ?_)
        obtain ⟨n9, hw⟩ := hw
        exact hlp80 n9 p1 r6 r11 0 u14 hw _ _ hP hD hS _ (lv_sub hl [3, 5, 2, 1, 0] rfl)
      · have hw := brN.f hw c12
        refine lv_aload_n hx hb dX3_remove_49 rfl (lv_at hl 2 rfl) ?_
        refine lv_aload_n hx hb dX3_remove_50 rfl (lv_at hl 2 rfl) ?_
        refine va_get (D := G) (ci := 3) (v := .ref (am 10)) (C := RX3) (T := TX3) (N := 24) hx hb hts hiX3 hown hK hP 0 rfl rfl 16 (by decide) (hts (.fieldLink RX3 38 "TreapVersionsModel" "root" "[I") (by decide +kernel)) (fun _ h9 => h9) rfl dX3_remove_51 ?_
        refine lv_iload_n hx hb dX3_remove_54 rfl (lv_at hl 3 rfl) ?_
        refine va_iald hx hb hK hP 10 0 rfl rfl (rdA.hin hw) dX3_remove_55 ?_
        refine lv_topi (fun z33 ez33 => ?_)
        have hw := rdA.go hw z33 ez33
        refine va_put (D := G) (ci := 3) (v := .int z33) (ty := .int) (C := RX3) (T := TX3) (N := 24) hx hb hts hiX3 tyX3 tyX3_ok nmX3 hown hK hP hD hS 0 rfl rfl 19 (by decide) (hts (.fieldLink RX3 74 "TreapVersionsModel" "tree" "I") (by decide +kernel)) (fun _ h9 => h9) rfl (by decide +kernel) rfl rfl (Nat.le_of_ble_eq_true rfl) dX3_remove_56 (fun H locs hP hD hS => ?_)
        obtain ⟨u34, eu34⟩ : ∃ z : CS, z = cset u10 19 (fun _ => z33) := ⟨_, rfl⟩
        have hP : va_P G vwCl (mw am cI cZ (cset u10 19 (fun _ => z33))) H := hP
        have hD : va_D A (mw am cI cZ (cset u10 19 (fun _ => z33))) := hD
        rw [← eu34] at hP hD
        have hw := stF.go hw u34 eu34
        refine lv_aload_n hx hb dX3_remove_59 rfl (lv_at hl 2 rfl) ?_
        refine lv_iload_n hx hb dX3_remove_60 rfl (lv_at hl 1 rfl) ?_
        refine CtI.call (As := [.int r6]) (rest := []) (c_X3_settle l G am cI cZ r6 u34 _ hw) ⟨hx, hb, hml, hown, hts⟩ (cwV 1 hts gX3_remove_X3_settle rfl rfl rfl (by decide +kernel) ⟨Nat.le_of_ble_eq_true rfl, Nat.le_of_ble_eq_true rfl⟩) (va_recv hK hP (ci := 3) (q0 := 0) rfl rfl) hK hP hD hS hA rfl hl.1 rfl (Nat.le_of_ble_eq_true rfl) dX3_remove_61 ⟨Nat.zero_le _, Nat.zero_le _⟩ (fun r36 u35 H locs hw hP hD hS => ?_)
        exact hret r36 u35 64 _ _ _ dX3_remove_64 rfl hw hP hD hS
    · have hw := brN.f hw c7
      refine lv_bipush (v := (-2)) hx hb dX3_remove_24 (by decide) ?_
      exact hret (-2) u5 26 _ _ _ dX3_remove_26 rfl hw hP hD hS
  · have hw := brN.t hw c4
    refine lv_iconst (v := (-1)) hx hb dX3_remove_13 (by decide) ?_
    exact hret (-1) u2 14 _ _ _ dX3_remove_14 rfl hw hP hD hS
set_option maxHeartbeats 4000000 in
set_option maxRecDepth 100000 in
theorem c_X3_below (l : Launch) (G : va_G) (am : Nat → Nat) (cI cZ : ClassId) (p0 : Int32) (p1 : Int32) (u : CS) (post : Int32 → CS → Prop) (hw : wp_X3_below p0 p1 u post) : CtI l yX3_below wsX3_below ({ frames := 4, cells := 0, slots := 0, locals := 88 }) G (ty2 cI cZ) (mw am cI cZ) [.ref (am 0), .int p0, .int p1] u post := by
  refine CtI.of (cc := cX3_below) (maxL := 6) (rt := .int) (by decide) rfl (Nat.le_of_ble_eq_true rfl) ?_
  intro p e s m below meth c A Q hx hb hml hts hown hK hA hret ls hl hP hD hS
  have hiX3 : ∀ w ∈ u_ws RX3 TX3 24, w ∈ wsX3_below := by decide +kernel
  have hown : s.vm.findClass RX3 = some m.cls := hown
  have hl : lv_has ls 6 [(0, .ref (am 0)), (1, .int p0), (2, .int p1)] := hl
  have hlp46 : ∀ (n : Nat) (a2 : Int32) (a3 : Int32) (a4 : Int32) (u : CS), lp_X3_below_46 post n a2 a3 a4 u → ∀ (H : Heap) (locs : List Loc), va_P G vwCl (mw am cI cZ u) H → va_D A (mw am cI cZ u) → va_S A s.heap H locs → ∀ ls : Array Slot, lv_has ls 6 [(0, .ref (am 0)), (2, .int a2), (3, .int a3), (4, .int a4)] → W p l e ({ frames := 4, cells := 0, slots := 0, locals := 88 }) s m ([.ref (am 0), .int p0, .int p1] : List Value).toArray below meth c H locs 0 0 Q (F0 m 46 ls []) := by
    clear hw hl hP hD hS
    intro n
    induction n with
    | zero => intro a2 a3 a4 u hw; exact False.elim hw
    | succ n ih =>
      intro a2 a3 a4 u hw H locs hP hD hS ls hl
      unfold lp_X3_below_46 at hw
      refine lv_iload hx hb dX3_below_46 (lv_at hl 3 rfl) ?_
      refine lv_aload_n hx hb dX3_below_48 rfl (lv_at hl 0 rfl) ?_
      refine va_get (D := G) (ci := 3) (v := .int (u 22 0)) (C := RX3) (T := TX3) (N := 24) hx hb hts hiX3 hown hK hP 0 rfl rfl 22 (by decide) (hts (.fieldLink RX3 88 "TreapVersionsModel" "steps" "I") (by decide +kernel)) (fun _ h9 => h9) rfl dX3_below_49 ?_
      refine lv_topi (fun z11 ez11 => ?_)
      have hw := nmI.go hw z11 ez11
      refine lv_icmp_ge (tgt := 111) hx hb dX3_below_52 (by decide) (fun c12 => ?_) (fun c12 => ?_)
      · have hw := brN.t hw c12
        refine lv_aload_n hx hb dX3_below_111 rfl (lv_at hl 0 rfl) ?_
        refine lv_iload_n hx hb dX3_below_112 rfl (lv_at hl 2 rfl) ?_
        refine CtI.call (As := [.int a3]) (rest := []) (c_X3_settle l G am cI cZ a3 u _ hw) ⟨hx, hb, hml, hown, hts⟩ (cwV 1 hts gX3_below_X3_settle rfl rfl rfl (by decide +kernel) ⟨Nat.le_of_ble_eq_true rfl, Nat.le_of_ble_eq_true rfl⟩) (va_recv hK hP (ci := 3) (q0 := 0) rfl rfl) hK hP hD hS hA rfl hl.1 rfl (Nat.le_of_ble_eq_true rfl) dX3_below_113 ⟨Nat.zero_le _, Nat.zero_le _⟩ (fun r14 u13 H locs hw hP hD hS => ?_)
        exact hret r14 u13 116 _ _ _ dX3_below_116 rfl hw hP hD hS
      · have hw := brN.f hw c12
        refine lv_aload_n hx hb dX3_below_55 rfl (lv_at hl 0 rfl) ?_
        refine va_get (D := G) (ci := 3) (v := .ref (am 1)) (C := RX3) (T := TX3) (N := 24) hx hb hts hiX3 hown hK hP 0 rfl rfl 6 (by decide) (hts (.fieldLink RX3 7 "TreapVersionsModel" "key" "[I") (by decide +kernel)) (fun _ h9 => h9) rfl dX3_below_56 ?_
        refine lv_aload_n hx hb dX3_below_59 rfl (lv_at hl 0 rfl) ?_
        refine va_get (D := G) (ci := 3) (v := .ref (am 11)) (C := RX3) (T := TX3) (N := 24) hx hb hts hiX3 hown hK hP 0 rfl rfl 23 (by decide) (hts (.fieldLink RX3 41 "TreapVersionsModel" "way" "[I") (by decide +kernel)) (fun _ h9 => h9) rfl dX3_below_60 ?_
        refine lv_iload hx hb dX3_below_63 (lv_at hl 3 rfl) ?_
        refine va_iald hx hb hK hP 11 0 rfl rfl (rdA.hin hw) dX3_below_65 ?_
        refine lv_topi (fun z15 ez15 => ?_)
        have hw := rdA.go hw z15 ez15
        refine va_iald hx hb hK hP 1 0 rfl rfl (rdA.hin hw) dX3_below_66 ?_
        refine lv_topi (fun z16 ez16 => ?_)
        have hw := rdA.go hw z16 ez16
        refine lv_iload_n hx hb dX3_below_67 rfl (lv_at hl 1 rfl) ?_
        refine lv_icmp_ge (tgt := 105) hx hb dX3_below_68 (by decide) (fun c17 => ?_) (fun c17 => ?_)
        · have hw := brN.t hw c17
          obtain ⟨z18, ez18⟩ : ∃ y : Int32, y = a4 + 1 := ⟨_, rfl⟩
          have hw := nmI.go hw z18 ez18
          refine lv_iinc (v := z18) (lv' := [(4, .int z18), (0, .ref (am 0)), (2, .int a2), (3, .int a3)]) hx hb dX3_below_105 hl (k := 3) rfl (by rw [ez18]; rfl) (by decide) rfl (fun ls hl => ?_)
          refine lv_goto (tgt := 46) hx hb dX3_below_108 (by decide) ?_
          exact ih a2 a3 z18 u hw _ _ hP hD hS _ (lv_sub hl [1, 2, 3, 0] rfl)
        · have hw := brN.f hw c17
          refine lv_aload_n hx hb dX3_below_71 rfl (lv_at hl 0 rfl) ?_
          refine lv_aload_n hx hb dX3_below_72 rfl (lv_at hl 0 rfl) ?_
          refine va_get (D := G) (ci := 3) (v := .ref (am 11)) (C := RX3) (T := TX3) (N := 24) hx hb hts hiX3 hown hK hP 0 rfl rfl 23 (by decide) (hts (.fieldLink RX3 41 "TreapVersionsModel" "way" "[I") (by decide +kernel)) (fun _ h9 => h9) rfl dX3_below_73 ?_
          refine lv_iload hx hb dX3_below_76 (lv_at hl 3 rfl) ?_
          refine va_iald hx hb hK hP 11 0 rfl rfl (rdA.hin hw) dX3_below_78 ?_
          refine lv_topi (fun z19 ez19 => ?_)
          have hw := rdA.go hw z19 ez19
          refine CtI.call (As := [.int z19]) (rest := []) (c_X3_copy l G am cI cZ z19 u _ hw) ⟨hx, hb, hml, hown, hts⟩ (cwV 1 hts gX3_below_X3_copy rfl rfl rfl (by decide +kernel) ⟨Nat.le_of_ble_eq_true rfl, Nat.le_of_ble_eq_true rfl⟩) (va_recv hK hP (ci := 3) (q0 := 0) rfl rfl) hK hP hD hS hA rfl hl.1 rfl (Nat.le_of_ble_eq_true rfl) dX3_below_79 ⟨Nat.zero_le _, Nat.zero_le _⟩ (fun r21 u20 H locs hw hP hD hS => ?_)
          refine lv_istore (lv' := [(5, .int r21), (0, .ref (am 0)), (2, .int a2), (3, .int a3), (4, .int a4)]) hx hb dX3_below_82 hl (by decide) rfl (fun ls hl => ?_)
          refine lv_aload_n hx hb dX3_below_84 rfl (lv_at hl 1 rfl) ?_
          refine va_get (D := G) (ci := 3) (v := .ref (am 5)) (C := RX3) (T := TX3) (N := 24) hx hb hts hiX3 hown hK hP 0 rfl rfl 10 (by decide) (hts (.fieldLink RX3 22 "TreapVersionsModel" "right" "[I") (by decide +kernel)) (fun _ h9 => h9) rfl dX3_below_85 ?_
          refine lv_iload hx hb dX3_below_88 (lv_at hl 0 rfl) ?_
          refine lv_iconst (v := (-1)) hx hb dX3_below_90 (by decide) ?_
          refine va_iast hx hb hK hP hD hS 5 0 rfl rfl (wrA.hin hw) dX3_below_91 (fun H locs hP hD hS => ?_)
          obtain ⟨u22, eu22⟩ : ∃ z : CS, z = cset u20 10 (upd (u20 10) r21.toNatClampNeg (-1)) := ⟨_, rfl⟩
          have hP : va_P G vwCl (mw am cI cZ (cset u20 10 (upd (u20 10) r21.toNatClampNeg (-1)))) H := hP
          have hD : va_D A (mw am cI cZ (cset u20 10 (upd (u20 10) r21.toNatClampNeg (-1)))) := hD
          rw [← eu22] at hP hD
          have hw := wrA.go hw u22 eu22
          refine lv_aload_n hx hb dX3_below_92 rfl (lv_at hl 1 rfl) ?_
          refine lv_iload hx hb dX3_below_93 (lv_at hl 0 rfl) ?_
          refine CtV.call (As := [.int r21]) (rest := []) (c_X3_hang l G am cI cZ r21 u22 _ hw) ⟨hx, hb, hml, hown, hts⟩ (cwV 1 hts gX3_below_X3_hang rfl rfl rfl (by decide +kernel) ⟨Nat.le_of_ble_eq_true rfl, Nat.le_of_ble_eq_true rfl⟩) (va_recv hK hP (ci := 3) (q0 := 0) rfl rfl) hK hP hD hS hA rfl hl.1 rfl (Nat.le_of_ble_eq_true rfl) dX3_below_95 ⟨Nat.zero_le _, Nat.zero_le _⟩ (fun u23 H locs hw hP hD hS => ?_)
          refine lv_aload_n hx hb dX3_below_98 rfl (lv_at hl 1 rfl) ?_
          refine lv_iload hx hb dX3_below_99 (lv_at hl 0 rfl) ?_
          refine lv_iconst (v := 1) hx hb dX3_below_101 (by decide) ?_
          refine CtV.call (As := [.int r21, .int 1]) (rest := []) (c_X3_holeAt l G am cI cZ r21 1 u23 _ hw) ⟨hx, hb, hml, hown, hts⟩ (cwV 2 hts gX3_below_X3_holeAt rfl rfl rfl (by decide +kernel) ⟨Nat.le_of_ble_eq_true rfl, Nat.le_of_ble_eq_true rfl⟩) (va_recv hK hP (ci := 3) (q0 := 0) rfl rfl) hK hP hD hS hA rfl hl.1 rfl (Nat.le_of_ble_eq_true rfl) dX3_below_102 ⟨Nat.zero_le _, Nat.zero_le _⟩ (fun u24 H locs hw hP hD hS => ?_)
          obtain ⟨z25, ez25⟩ : ∃ y : Int32, y = a4 + 1 := ⟨_, rfl⟩
          have hw := nmI.go hw z25 ez25
          refine lv_iinc (v := z25) (lv' := [(4, .int z25), (5, .int r21), (0, .ref (am 0)), (2, .int a2), (3, .int a3)]) hx hb dX3_below_105 hl (k := 4) rfl (by rw [ez25]; rfl) (by decide) rfl (fun ls hl => ?_)
          refine lv_goto (tgt := 46) hx hb dX3_below_108 (by decide) ?_
          exact ih a2 a3 z25 u24 hw _ _ hP hD hS _ (lv_sub hl [2, 3, 4, 0] rfl)
  unfold wp_X3_below at hw
  refine lv_aload_n hx hb dX3_below_0 rfl (lv_at hl 0 rfl) ?_
  refine lv_iconst (v := 0) hx hb dX3_below_1 (by decide) ?_
  refine va_put (D := G) (ci := 3) (v := .int 0) (ty := .int) (C := RX3) (T := TX3) (N := 24) hx hb hts hiX3 tyX3 tyX3_ok nmX3 hown hK hP hD hS 0 rfl rfl 0 (by decide) (hts (.fieldLink RX3 54 "TreapVersionsModel" "thrown" "I") (by decide +kernel)) (fun _ h9 => h9) rfl (by decide +kernel) rfl rfl (Nat.le_of_ble_eq_true rfl) dX3_below_2 (fun H locs hP hD hS => ?_)
  obtain ⟨u1, eu1⟩ : ∃ z : CS, z = cset u 0 (fun _ => 0) := ⟨_, rfl⟩
  have hP : va_P G vwCl (mw am cI cZ (cset u 0 (fun _ => 0))) H := hP
  have hD : va_D A (mw am cI cZ (cset u 0 (fun _ => 0))) := hD
  rw [← eu1] at hP hD
  have hw := stF.go hw u1 eu1
  refine lv_aload_n hx hb dX3_below_5 rfl (lv_at hl 0 rfl) ?_
  refine lv_iload_n hx hb dX3_below_6 rfl (lv_at hl 1 rfl) ?_
  refine CtI.call (As := [.int p0]) (rest := []) (c_X3_has l G am cI cZ p0 u1 _ hw) ⟨hx, hb, hml, hown, hts⟩ (cwV 1 hts gX3_below_X3_has rfl rfl rfl (by decide +kernel) ⟨Nat.le_of_ble_eq_true rfl, Nat.le_of_ble_eq_true rfl⟩) (va_recv hK hP (ci := 3) (q0 := 0) rfl rfl) hK hP hD hS hA rfl hl.1 rfl (Nat.le_of_ble_eq_true rfl) dX3_below_7 ⟨Nat.zero_le _, Nat.zero_le _⟩ (fun r3 u2 H locs hw hP hD hS => ?_)
  obtain ⟨hz, hw⟩ := hw
  refine lv_if_ne (tgt := 15) hx hb dX3_below_10 (by decide) (fun c4 => ?_) (fun c4 => ?_)
  · have hw := brN.f hw c4
    refine lv_aload_n hx hb dX3_below_15 rfl (lv_at hl 0 rfl) ?_
    refine CtI.call (As := []) (rest := []) (c_X3_freeHandle l G am cI cZ u2 _ hw) ⟨hx, hb, hml, hown, hts⟩ (cwV 0 hts gX3_below_X3_freeHandle rfl rfl rfl (by decide +kernel) ⟨Nat.le_of_ble_eq_true rfl, Nat.le_of_ble_eq_true rfl⟩) (va_recv hK hP (ci := 3) (q0 := 0) rfl rfl) hK hP hD hS hA rfl hl.1 rfl (Nat.le_of_ble_eq_true rfl) dX3_below_16 ⟨Nat.zero_le _, Nat.zero_le _⟩ (fun r6 u5 H locs hw hP hD hS => ?_)
    refine lv_istore_n (lv' := [(3, .int r6), (0, .ref (am 0)), (1, .int p0), (2, .int p1)]) hx hb dX3_below_19 rfl hl (by decide) rfl (fun ls hl => ?_)
    refine lv_iload_n hx hb dX3_below_20 rfl (lv_at hl 0 rfl) ?_
    refine lv_if_ge (tgt := 27) hx hb dX3_below_21 (by decide) (fun c7 => ?_) (fun c7 => ?_)
    · have hw := brN.t hw c7
      refine lv_aload_n hx hb dX3_below_27 rfl (lv_at hl 1 rfl) ?_
      refine CtV.call (As := []) (rest := []) (c_X3_begin l G am cI cZ u5 _ hw) ⟨hx, hb, hml, hown, hts⟩ (cwV 0 hts gX3_below_X3_begin rfl rfl rfl (by decide +kernel) ⟨Nat.le_of_ble_eq_true rfl, Nat.le_of_ble_eq_true rfl⟩) (va_recv hK hP (ci := 3) (q0 := 0) rfl rfl) hK hP hD hS hA rfl hl.1 rfl (Nat.le_of_ble_eq_true rfl) dX3_below_28 ⟨Nat.zero_le _, Nat.zero_le _⟩ (fun u8 H locs hw hP hD hS => ?_)
      refine lv_aload_n hx hb dX3_below_31 rfl (lv_at hl 1 rfl) ?_
      refine lv_aload_n hx hb dX3_below_32 rfl (lv_at hl 1 rfl) ?_
      refine va_get (D := G) (ci := 3) (v := .ref (am 10)) (C := RX3) (T := TX3) (N := 24) hx hb hts hiX3 hown hK hP 0 rfl rfl 16 (by decide) (hts (.fieldLink RX3 38 "TreapVersionsModel" "root" "[I") (by decide +kernel)) (fun _ h9 => h9) rfl dX3_below_33 ?_
      refine lv_iload_n hx hb dX3_below_36 rfl (lv_at hl 2 rfl) ?_
      refine va_iald hx hb hK hP 10 0 rfl rfl (rdA.hin hw) dX3_below_37 ?_
      refine lv_topi (fun z9 ez9 => ?_)
      have hw := rdA.go hw z9 ez9
      refine lv_iload_n hx hb dX3_below_38 rfl (lv_at hl 3 rfl) ?_
      refine lv_iconst (v := 0) hx hb dX3_below_39 (by decide) ?_
      refine CtV.call (As := [.int z9, .int p1, .int 0]) (rest := []) (c_X3_go l G am cI cZ z9 p1 0 u8 _ hw) ⟨hx, hb, hml, hown, hts⟩ (cwV 3 hts gX3_below_X3_go rfl rfl rfl (by decide +kernel) ⟨Nat.le_of_ble_eq_true rfl, Nat.le_of_ble_eq_true rfl⟩) (va_recv hK hP (ci := 3) (q0 := 0) rfl rfl) hK hP hD hS hA rfl hl.1 rfl (Nat.le_of_ble_eq_true rfl) dX3_below_40 ⟨Nat.zero_le _, Nat.zero_le _⟩ (fun u10 H locs hw hP hD hS => ?_)
      refine lv_iconst (v := 0) hx hb dX3_below_43 (by decide) ?_
      refine lv_istore (lv' := [(4, .int 0), (3, .int r6), (0, .ref (am 0)), (1, .int p0), (2, .int p1)]) hx hb dX3_below_44 hl (by decide) rfl (fun ls hl => ?_)
      obtain ⟨n9, hw⟩ := hw
      exact hlp46 n9 p1 r6 0 u10 hw _ _ hP hD hS _ (lv_sub hl [2, 4, 1, 0] rfl)
    · have hw := brN.f hw c7
      refine lv_bipush (v := (-2)) hx hb dX3_below_24 (by decide) ?_
      exact hret (-2) u5 26 _ _ _ dX3_below_26 rfl hw hP hD hS
  · have hw := brN.t hw c4
    refine lv_iconst (v := (-1)) hx hb dX3_below_13 (by decide) ?_
    exact hret (-1) u2 14 _ _ _ dX3_below_14 rfl hw hP hD hS
set_option maxHeartbeats 4000000 in
set_option maxRecDepth 100000 in
theorem c_X3_least (l : Launch) (G : va_G) (am : Nat → Nat) (cI cZ : ClassId) (p0 : Int32) (u : CS) (post : Int32 → CS → Prop) (hw : wp_X3_least p0 u post) : CtI l yX3_least wsX3_least ({ frames := 0, cells := 0, slots := 0, locals := 0 }) G (ty2 cI cZ) (mw am cI cZ) [.ref (am 0), .int p0] u post := by
  refine CtI.of (cc := cX3_least) (maxL := 3) (rt := .int) (by decide) rfl (Nat.le_of_ble_eq_true rfl) ?_
  intro p e s m below meth c A Q hx hb hml hts hown hK hA hret ls hl hP hD hS
  have hiX3 : ∀ w ∈ u_ws RX3 TX3 24, w ∈ wsX3_least := by decide +kernel
  have hown : s.vm.findClass RX3 = some m.cls := hown
  have hl : lv_has ls 3 [(0, .ref (am 0)), (1, .int p0)] := hl
  have hlp2 : ∀ (n : Nat) (a2 : Int32) (u : CS), lp_X3_least_2 post n a2 u → ∀ (H : Heap) (locs : List Loc), va_P G vwCl (mw am cI cZ u) H → va_D A (mw am cI cZ u) → va_S A s.heap H locs → ∀ ls : Array Slot, lv_has ls 3 [(0, .ref (am 0)), (2, .int a2)] → W p l e ({ frames := 0, cells := 0, slots := 0, locals := 0 }) s m ([.ref (am 0), .int p0] : List Value).toArray below meth c H locs 0 0 Q (F0 m 2 ls []) := by
    clear hw hl hP hD hS
    intro n
    induction n with
    | zero => intro a2 u hw; exact False.elim hw
    | succ n ih =>
      intro a2 u hw H locs hP hD hS ls hl
      unfold lp_X3_least_2 at hw
      refine lv_aload_n hx hb dX3_least_2 rfl (lv_at hl 0 rfl) ?_
      refine va_get (D := G) (ci := 3) (v := .ref (am 4)) (C := RX3) (T := TX3) (N := 24) hx hb hts hiX3 hown hK hP 0 rfl rfl 9 (by decide) (hts (.fieldLink RX3 19 "TreapVersionsModel" "left" "[I") (by decide +kernel)) (fun _ h9 => h9) rfl dX3_least_3 ?_
      refine lv_iload_n hx hb dX3_least_6 rfl (lv_at hl 1 rfl) ?_
      refine va_iald hx hb hK hP 4 0 rfl rfl (rdA.hin hw) dX3_least_7 ?_
      refine lv_topi (fun z1 ez1 => ?_)
      have hw := rdA.go hw z1 ez1
      refine lv_if_lt (tgt := 21) hx hb dX3_least_8 (by decide) (fun c2 => ?_) (fun c2 => ?_)
      · have hw := brN.t hw c2
        refine lv_aload_n hx hb dX3_least_21 rfl (lv_at hl 0 rfl) ?_
        refine va_get (D := G) (ci := 3) (v := .ref (am 1)) (C := RX3) (T := TX3) (N := 24) hx hb hts hiX3 hown hK hP 0 rfl rfl 6 (by decide) (hts (.fieldLink RX3 7 "TreapVersionsModel" "key" "[I") (by decide +kernel)) (fun _ h9 => h9) rfl dX3_least_22 ?_
        refine lv_iload_n hx hb dX3_least_25 rfl (lv_at hl 1 rfl) ?_
        refine va_iald hx hb hK hP 1 0 rfl rfl (rdA.hin hw) dX3_least_26 ?_
        refine lv_topi (fun z3 ez3 => ?_)
        have hw := rdA.go hw z3 ez3
        exact hret z3 u 27 _ _ _ dX3_least_27 rfl hw hP hD hS
      · have hw := brN.f hw c2
        refine lv_aload_n hx hb dX3_least_11 rfl (lv_at hl 0 rfl) ?_
        refine va_get (D := G) (ci := 3) (v := .ref (am 4)) (C := RX3) (T := TX3) (N := 24) hx hb hts hiX3 hown hK hP 0 rfl rfl 9 (by decide) (hts (.fieldLink RX3 19 "TreapVersionsModel" "left" "[I") (by decide +kernel)) (fun _ h9 => h9) rfl dX3_least_12 ?_
        refine lv_iload_n hx hb dX3_least_15 rfl (lv_at hl 1 rfl) ?_
        refine va_iald hx hb hK hP 4 0 rfl rfl (rdA.hin hw) dX3_least_16 ?_
        refine lv_topi (fun z4 ez4 => ?_)
        have hw := rdA.go hw z4 ez4
        refine lv_istore_n (lv' := [(2, .int z4), (0, .ref (am 0))]) hx hb dX3_least_17 rfl hl (by decide) rfl (fun ls hl => ?_)
        refine lv_goto (tgt := 2) hx hb dX3_least_18 (by decide) ?_
        exact ih z4 u hw _ _ hP hD hS _ (lv_sub hl [1, 0] rfl)
  unfold wp_X3_least at hw
  refine lv_iload_n hx hb dX3_least_0 rfl (lv_at hl 1 rfl) ?_
  refine lv_istore_n (lv' := [(2, .int p0), (0, .ref (am 0)), (1, .int p0)]) hx hb dX3_least_1 rfl hl (by decide) rfl (fun ls hl => ?_)
  obtain ⟨n9, hw⟩ := hw
  exact hlp2 n9 p0 u hw _ _ hP hD hS _ (lv_sub hl [1, 0] rfl)
set_option maxHeartbeats 4000000 in
set_option maxRecDepth 100000 in
theorem c_X3_greatest (l : Launch) (G : va_G) (am : Nat → Nat) (cI cZ : ClassId) (p0 : Int32) (u : CS) (post : Int32 → CS → Prop) (hw : wp_X3_greatest p0 u post) : CtI l yX3_greatest wsX3_greatest ({ frames := 0, cells := 0, slots := 0, locals := 0 }) G (ty2 cI cZ) (mw am cI cZ) [.ref (am 0), .int p0] u post := by
  refine CtI.of (cc := cX3_greatest) (maxL := 3) (rt := .int) (by decide) rfl (Nat.le_of_ble_eq_true rfl) ?_
  intro p e s m below meth c A Q hx hb hml hts hown hK hA hret ls hl hP hD hS
  have hiX3 : ∀ w ∈ u_ws RX3 TX3 24, w ∈ wsX3_greatest := by decide +kernel
  have hown : s.vm.findClass RX3 = some m.cls := hown
  have hl : lv_has ls 3 [(0, .ref (am 0)), (1, .int p0)] := hl
  have hlp2 : ∀ (n : Nat) (a2 : Int32) (u : CS), lp_X3_greatest_2 post n a2 u → ∀ (H : Heap) (locs : List Loc), va_P G vwCl (mw am cI cZ u) H → va_D A (mw am cI cZ u) → va_S A s.heap H locs → ∀ ls : Array Slot, lv_has ls 3 [(0, .ref (am 0)), (2, .int a2)] → W p l e ({ frames := 0, cells := 0, slots := 0, locals := 0 }) s m ([.ref (am 0), .int p0] : List Value).toArray below meth c H locs 0 0 Q (F0 m 2 ls []) := by
    clear hw hl hP hD hS
    intro n
    induction n with
    | zero => intro a2 u hw; exact False.elim hw
    | succ n ih =>
      intro a2 u hw H locs hP hD hS ls hl
      unfold lp_X3_greatest_2 at hw
      refine lv_aload_n hx hb dX3_greatest_2 rfl (lv_at hl 0 rfl) ?_
      refine va_get (D := G) (ci := 3) (v := .ref (am 5)) (C := RX3) (T := TX3) (N := 24) hx hb hts hiX3 hown hK hP 0 rfl rfl 10 (by decide) (hts (.fieldLink RX3 22 "TreapVersionsModel" "right" "[I") (by decide +kernel)) (fun _ h9 => h9) rfl dX3_greatest_3 ?_
      refine lv_iload_n hx hb dX3_greatest_6 rfl (lv_at hl 1 rfl) ?_
      refine va_iald hx hb hK hP 5 0 rfl rfl (rdA.hin hw) dX3_greatest_7 ?_
      refine lv_topi (fun z1 ez1 => ?_)
      have hw := rdA.go hw z1 ez1
      refine lv_if_lt (tgt := 21) hx hb dX3_greatest_8 (by decide) (fun c2 => ?_) (fun c2 => ?_)
      · have hw := brN.t hw c2
        refine lv_aload_n hx hb dX3_greatest_21 rfl (lv_at hl 0 rfl) ?_
        refine va_get (D := G) (ci := 3) (v := .ref (am 1)) (C := RX3) (T := TX3) (N := 24) hx hb hts hiX3 hown hK hP 0 rfl rfl 6 (by decide) (hts (.fieldLink RX3 7 "TreapVersionsModel" "key" "[I") (by decide +kernel)) (fun _ h9 => h9) rfl dX3_greatest_22 ?_
        refine lv_iload_n hx hb dX3_greatest_25 rfl (lv_at hl 1 rfl) ?_
        refine va_iald hx hb hK hP 1 0 rfl rfl (rdA.hin hw) dX3_greatest_26 ?_
        refine lv_topi (fun z3 ez3 => ?_)
        have hw := rdA.go hw z3 ez3
        exact hret z3 u 27 _ _ _ dX3_greatest_27 rfl hw hP hD hS
      · have hw := brN.f hw c2
        refine lv_aload_n hx hb dX3_greatest_11 rfl (lv_at hl 0 rfl) ?_
        refine va_get (D := G) (ci := 3) (v := .ref (am 5)) (C := RX3) (T := TX3) (N := 24) hx hb hts hiX3 hown hK hP 0 rfl rfl 10 (by decide) (hts (.fieldLink RX3 22 "TreapVersionsModel" "right" "[I") (by decide +kernel)) (fun _ h9 => h9) rfl dX3_greatest_12 ?_
        refine lv_iload_n hx hb dX3_greatest_15 rfl (lv_at hl 1 rfl) ?_
        refine va_iald hx hb hK hP 5 0 rfl rfl (rdA.hin hw) dX3_greatest_16 ?_
        refine lv_topi (fun z4 ez4 => ?_)
        have hw := rdA.go hw z4 ez4
        refine lv_istore_n (lv' := [(2, .int z4), (0, .ref (am 0))]) hx hb dX3_greatest_17 rfl hl (by decide) rfl (fun ls hl => ?_)
        refine lv_goto (tgt := 2) hx hb dX3_greatest_18 (by decide) ?_
        exact ih z4 u hw _ _ hP hD hS _ (lv_sub hl [1, 0] rfl)
  unfold wp_X3_greatest at hw
  refine lv_iload_n hx hb dX3_greatest_0 rfl (lv_at hl 1 rfl) ?_
  refine lv_istore_n (lv' := [(2, .int p0), (0, .ref (am 0)), (1, .int p0)]) hx hb dX3_greatest_1 rfl hl (by decide) rfl (fun ls hl => ?_)
  obtain ⟨n9, hw⟩ := hw
  exact hlp2 n9 p0 u hw _ _ hP hD hS _ (lv_sub hl [1, 0] rfl)
set_option maxHeartbeats 4000000 in
set_option maxRecDepth 100000 in
theorem c_X3_join (l : Launch) (G : va_G) (am : Nat → Nat) (cI cZ : ClassId) (p0 : Int32) (p1 : Int32) (u : CS) (post : Int32 → CS → Prop) (hw : wp_X3_join p0 p1 u post) : CtI l yX3_join wsX3_join ({ frames := 4, cells := 0, slots := 0, locals := 88 }) G (ty2 cI cZ) (mw am cI cZ) [.ref (am 0), .int p0, .int p1] u post := by
  refine CtI.of (cc := cX3_join) (maxL := 4) (rt := .int) (by decide) rfl (Nat.le_of_ble_eq_true rfl) ?_
  intro p e s m below meth c A Q hx hb hml hts hown hK hA hret ls hl hP hD hS
  have hiX3 : ∀ w ∈ u_ws RX3 TX3 24, w ∈ wsX3_join := by decide +kernel
  have hown : s.vm.findClass RX3 = some m.cls := hown
  have hl : lv_has ls 4 [(0, .ref (am 0)), (1, .int p0), (2, .int p1)] := hl
  unfold wp_X3_join at hw
  refine lv_aload_n hx hb dX3_join_0 rfl (lv_at hl 0 rfl) ?_
  refine lv_iconst (v := 0) hx hb dX3_join_1 (by decide) ?_
  refine va_put (D := G) (ci := 3) (v := .int 0) (ty := .int) (C := RX3) (T := TX3) (N := 24) hx hb hts hiX3 tyX3 tyX3_ok nmX3 hown hK hP hD hS 0 rfl rfl 0 (by decide) (hts (.fieldLink RX3 54 "TreapVersionsModel" "thrown" "I") (by decide +kernel)) (fun _ h9 => h9) rfl (by decide +kernel) rfl rfl (Nat.le_of_ble_eq_true rfl) dX3_join_2 (fun H locs hP hD hS => ?_)
  obtain ⟨u1, eu1⟩ : ∃ z : CS, z = cset u 0 (fun _ => 0) := ⟨_, rfl⟩
  have hP : va_P G vwCl (mw am cI cZ (cset u 0 (fun _ => 0))) H := hP
  have hD : va_D A (mw am cI cZ (cset u 0 (fun _ => 0))) := hD
  rw [← eu1] at hP hD
  have hw := stF.go hw u1 eu1
  refine lv_aload_n hx hb dX3_join_5 rfl (lv_at hl 0 rfl) ?_
  refine lv_iload_n hx hb dX3_join_6 rfl (lv_at hl 1 rfl) ?_
  refine CtI.call (As := [.int p0]) (rest := []) (c_X3_has l G am cI cZ p0 u1 _ hw) ⟨hx, hb, hml, hown, hts⟩ (cwV 1 hts gX3_join_X3_has rfl rfl rfl (by decide +kernel) ⟨Nat.le_of_ble_eq_true rfl, Nat.le_of_ble_eq_true rfl⟩) (va_recv hK hP (ci := 3) (q0 := 0) rfl rfl) hK hP hD hS hA rfl hl.1 rfl (Nat.le_of_ble_eq_true rfl) dX3_join_7 ⟨Nat.zero_le _, Nat.zero_le _⟩ (fun r3 u2 H locs hw hP hD hS => ?_)
  obtain ⟨hz, hw⟩ := hw
  refine lv_if_eq (tgt := 21) hx hb dX3_join_10 (by decide) (fun c4 => ?_) (fun c4 => ?_)
  · have hw := brN.t hw c4
    refine lv_iconst (v := (-1)) hx hb dX3_join_21 (by decide) ?_
    exact hret (-1) u2 22 _ _ _ dX3_join_22 rfl hw hP hD hS
  · have hw := brN.f hw c4
    refine lv_aload_n hx hb dX3_join_13 rfl (lv_at hl 0 rfl) ?_
    refine lv_iload_n hx hb dX3_join_14 rfl (lv_at hl 2 rfl) ?_
    refine CtI.call (As := [.int p1]) (rest := []) (c_X3_has l G am cI cZ p1 u2 _ hw) ⟨hx, hb, hml, hown, hts⟩ (cwV 1 hts gX3_join_X3_has rfl rfl rfl (by decide +kernel) ⟨Nat.le_of_ble_eq_true rfl, Nat.le_of_ble_eq_true rfl⟩) (va_recv hK hP (ci := 3) (q0 := 0) rfl rfl) hK hP hD hS hA rfl hl.1 rfl (Nat.le_of_ble_eq_true rfl) dX3_join_15 ⟨Nat.zero_le _, Nat.zero_le _⟩ (fun r6 u5 H locs hw hP hD hS => ?_)
    obtain ⟨hz, hw⟩ := hw
    refine lv_if_ne (tgt := 23) hx hb dX3_join_18 (by decide) (fun c7 => ?_) (fun c7 => ?_)
    · have hw := brN.f hw c7
      refine lv_aload_n hx hb dX3_join_23 rfl (lv_at hl 0 rfl) ?_
      refine va_get (D := G) (ci := 3) (v := .ref (am 10)) (C := RX3) (T := TX3) (N := 24) hx hb hts hiX3 hown hK hP 0 rfl rfl 16 (by decide) (hts (.fieldLink RX3 38 "TreapVersionsModel" "root" "[I") (by decide +kernel)) (fun _ h9 => h9) rfl dX3_join_24 ?_
      refine lv_iload_n hx hb dX3_join_27 rfl (lv_at hl 1 rfl) ?_
      refine va_iald hx hb hK hP 10 0 rfl rfl (rdA.hin hw) dX3_join_28 ?_
      refine lv_topi (fun z8 ez8 => ?_)
      have hw := rdA.go hw z8 ez8
      refine lv_if_lt (tgt := 67) hx hb dX3_join_29 (by decide) (fun c9 => ?_) (fun c9 => ?_)
      · have hw := brN.t hw c9
        refine lv_aload_n hx hb dX3_join_67 rfl (lv_at hl 0 rfl) ?_
        refine CtI.call (As := []) (rest := []) (c_X3_freeHandle l G am cI cZ u5 _ hw) ⟨hx, hb, hml, hown, hts⟩ (cwV 0 hts gX3_join_X3_freeHandle rfl rfl rfl (by decide +kernel) ⟨Nat.le_of_ble_eq_true rfl, Nat.le_of_ble_eq_true rfl⟩) (va_recv hK hP (ci := 3) (q0 := 0) rfl rfl) hK hP hD hS hA rfl hl.1 rfl (Nat.le_of_ble_eq_true rfl) dX3_join_68 ⟨Nat.zero_le _, Nat.zero_le _⟩ (fun r11 u10 H locs hw hP hD hS => ?_)
        refine lv_istore_n (lv' := [(3, .int r11), (0, .ref (am 0)), (1, .int p0), (2, .int p1)]) hx hb dX3_join_71 rfl hl (by decide) rfl (fun ls hl => ?_)
        refine lv_iload_n hx hb dX3_join_72 rfl (lv_at hl 0 rfl) ?_
        refine lv_if_ge (tgt := 79) hx hb dX3_join_73 (by decide) (fun c12 => ?_) (fun c12 => ?_)
        · have hw := brN.t hw c12
          refine lv_aload_n hx hb dX3_join_79 rfl (lv_at hl 1 rfl) ?_
          refine CtV.call (As := []) (rest := []) (c_X3_begin l G am cI cZ u10 _ hw) ⟨hx, hb, hml, hown, hts⟩ (cwV 0 hts gX3_join_X3_begin rfl rfl rfl (by decide +kernel) ⟨Nat.le_of_ble_eq_true rfl, Nat.le_of_ble_eq_true rfl⟩) (va_recv hK hP (ci := 3) (q0 := 0) rfl rfl) hK hP hD hS hA rfl hl.1 rfl (Nat.le_of_ble_eq_true rfl) dX3_join_80 ⟨Nat.zero_le _, Nat.zero_le _⟩ (fun u13 H locs hw hP hD hS => ?_)
          refine lv_aload_n hx hb dX3_join_83 rfl (lv_at hl 1 rfl) ?_
          refine lv_aload_n hx hb dX3_join_84 rfl (lv_at hl 1 rfl) ?_
          refine va_get (D := G) (ci := 3) (v := .ref (am 10)) (C := RX3) (T := TX3) (N := 24) hx hb hts hiX3 hown hK hP 0 rfl rfl 16 (by decide) (hts (.fieldLink RX3 38 "TreapVersionsModel" "root" "[I") (by decide +kernel)) (fun _ h9 => h9) rfl dX3_join_85 ?_
          refine lv_iload_n hx hb dX3_join_88 rfl (lv_at hl 2 rfl) ?_
          refine va_iald hx hb hK hP 10 0 rfl rfl (rdA.hin hw) dX3_join_89 ?_
          refine lv_topi (fun z14 ez14 => ?_)
          have hw := rdA.go hw z14 ez14
          refine lv_aload_n hx hb dX3_join_90 rfl (lv_at hl 1 rfl) ?_
          refine va_get (D := G) (ci := 3) (v := .ref (am 10)) (C := RX3) (T := TX3) (N := 24) hx hb hts hiX3 hown hK hP 0 rfl rfl 16 (by decide) (hts (.fieldLink RX3 38 "TreapVersionsModel" "root" "[I") (by decide +kernel)) (fun _ h9 => h9) rfl dX3_join_91 ?_
          refine lv_iload_n hx hb dX3_join_94 rfl (lv_at hl 3 rfl) ?_
          refine va_iald hx hb hK hP 10 0 rfl rfl (rdA.hin hw) dX3_join_95 ?_
          refine lv_topi (fun z15 ez15 => ?_)
          have hw := rdA.go hw z15 ez15
          refine CtV.call (As := [.int z14, .int z15]) (rest := []) (c_X3_joint l G am cI cZ z14 z15 u13 _ hw) ⟨hx, hb, hml, hown, hts⟩ (cwV 2 hts gX3_join_X3_joint rfl rfl rfl (by decide +kernel) ⟨Nat.le_of_ble_eq_true rfl, Nat.le_of_ble_eq_true rfl⟩) (va_recv hK hP (ci := 3) (q0 := 0) rfl rfl) hK hP hD hS hA rfl hl.1 rfl (Nat.le_of_ble_eq_true rfl) dX3_join_96 ⟨Nat.zero_le _, Nat.zero_le _⟩ (fun u16 H locs hw hP hD hS => ?_)
          refine lv_aload_n hx hb dX3_join_99 rfl (lv_at hl 1 rfl) ?_
          refine lv_iload_n hx hb dX3_join_100 rfl (lv_at hl 0 rfl) ?_
          refine CtI.call (As := [.int r11]) (rest := []) (c_X3_settle l G am cI cZ r11 u16 _ hw) ⟨hx, hb, hml, hown, hts⟩ (cwV 1 hts gX3_join_X3_settle rfl rfl rfl (by decide +kernel) ⟨Nat.le_of_ble_eq_true rfl, Nat.le_of_ble_eq_true rfl⟩) (va_recv hK hP (ci := 3) (q0 := 0) rfl rfl) hK hP hD hS hA rfl hl.1 rfl (Nat.le_of_ble_eq_true rfl) dX3_join_101 ⟨Nat.zero_le _, Nat.zero_le _⟩ (fun r18 u17 H locs hw hP hD hS => ?_)
          exact hret r18 u17 104 _ _ _ dX3_join_104 rfl hw hP hD hS
        · have hw := brN.f hw c12
          refine lv_bipush (v := (-2)) hx hb dX3_join_76 (by decide) ?_
          exact hret (-2) u10 78 _ _ _ dX3_join_78 rfl hw hP hD hS
      · have hw := brN.f hw c9
        refine lv_aload_n hx hb dX3_join_32 rfl (lv_at hl 0 rfl) ?_
        refine va_get (D := G) (ci := 3) (v := .ref (am 10)) (C := RX3) (T := TX3) (N := 24) hx hb hts hiX3 hown hK hP 0 rfl rfl 16 (by decide) (hts (.fieldLink RX3 38 "TreapVersionsModel" "root" "[I") (by decide +kernel)) (fun _ h9 => h9) rfl dX3_join_33 ?_
        refine lv_iload_n hx hb dX3_join_36 rfl (lv_at hl 2 rfl) ?_
        refine va_iald hx hb hK hP 10 0 rfl rfl (rdA.hin hw) dX3_join_37 ?_
        refine lv_topi (fun z19 ez19 => ?_)
        have hw := rdA.go hw z19 ez19
        refine lv_if_lt (tgt := 67) hx hb dX3_join_38 (by decide) (fun c20 => ?_) (fun c20 => ?_)
        · have hw := brN.t hw c20
          refine lv_aload_n hx hb dX3_join_67 rfl (lv_at hl 0 rfl) ?_
          refine CtI.call (As := []) (rest := []) (c_X3_freeHandle l G am cI cZ u5 _ hw) ⟨hx, hb, hml, hown, hts⟩ (cwV 0 hts gX3_join_X3_freeHandle rfl rfl rfl (by decide +kernel) ⟨Nat.le_of_ble_eq_true rfl, Nat.le_of_ble_eq_true rfl⟩) (va_recv hK hP (ci := 3) (q0 := 0) rfl rfl) hK hP hD hS hA rfl hl.1 rfl (Nat.le_of_ble_eq_true rfl) dX3_join_68 ⟨Nat.zero_le _, Nat.zero_le _⟩ (fun r22 u21 H locs hw hP hD hS => ?_)
          refine lv_istore_n (lv' := [(3, .int r22), (0, .ref (am 0)), (1, .int p0), (2, .int p1)]) hx hb dX3_join_71 rfl hl (by decide) rfl (fun ls hl => ?_)
          refine lv_iload_n hx hb dX3_join_72 rfl (lv_at hl 0 rfl) ?_
          refine lv_if_ge (tgt := 79) hx hb dX3_join_73 (by decide) (fun c23 => ?_) (fun c23 => ?_)
          · have hw := brN.t hw c23
            refine lv_aload_n hx hb dX3_join_79 rfl (lv_at hl 1 rfl) ?_
            refine CtV.call (As := []) (rest := []) (c_X3_begin l G am cI cZ u21 _ hw) ⟨hx, hb, hml, hown, hts⟩ (cwV 0 hts gX3_join_X3_begin rfl rfl rfl (by decide +kernel) ⟨Nat.le_of_ble_eq_true rfl, Nat.le_of_ble_eq_true rfl⟩) (va_recv hK hP (ci := 3) (q0 := 0) rfl rfl) hK hP hD hS hA rfl hl.1 rfl (Nat.le_of_ble_eq_true rfl) dX3_join_80 ⟨Nat.zero_le _, Nat.zero_le _⟩ (fun u24 H locs hw hP hD hS => ?_)
            refine lv_aload_n hx hb dX3_join_83 rfl (lv_at hl 1 rfl) ?_
            refine lv_aload_n hx hb dX3_join_84 rfl (lv_at hl 1 rfl) ?_
            refine va_get (D := G) (ci := 3) (v := .ref (am 10)) (C := RX3) (T := TX3) (N := 24) hx hb hts hiX3 hown hK hP 0 rfl rfl 16 (by decide) (hts (.fieldLink RX3 38 "TreapVersionsModel" "root" "[I") (by decide +kernel)) (fun _ h9 => h9) rfl dX3_join_85 ?_
            refine lv_iload_n hx hb dX3_join_88 rfl (lv_at hl 2 rfl) ?_
            refine va_iald hx hb hK hP 10 0 rfl rfl (rdA.hin hw) dX3_join_89 ?_
            refine lv_topi (fun z25 ez25 => ?_)
            have hw := rdA.go hw z25 ez25
            refine lv_aload_n hx hb dX3_join_90 rfl (lv_at hl 1 rfl) ?_
            refine va_get (D := G) (ci := 3) (v := .ref (am 10)) (C := RX3) (T := TX3) (N := 24) hx hb hts hiX3 hown hK hP 0 rfl rfl 16 (by decide) (hts (.fieldLink RX3 38 "TreapVersionsModel" "root" "[I") (by decide +kernel)) (fun _ h9 => h9) rfl dX3_join_91 ?_
            refine lv_iload_n hx hb dX3_join_94 rfl (lv_at hl 3 rfl) ?_
            refine va_iald hx hb hK hP 10 0 rfl rfl (rdA.hin hw) dX3_join_95 ?_
            refine lv_topi (fun z26 ez26 => ?_)
            have hw := rdA.go hw z26 ez26
            refine CtV.call (As := [.int z25, .int z26]) (rest := []) (c_X3_joint l G am cI cZ z25 z26 u24 _ hw) ⟨hx, hb, hml, hown, hts⟩ (cwV 2 hts gX3_join_X3_joint rfl rfl rfl (by decide +kernel) ⟨Nat.le_of_ble_eq_true rfl, Nat.le_of_ble_eq_true rfl⟩) (va_recv hK hP (ci := 3) (q0 := 0) rfl rfl) hK hP hD hS hA rfl hl.1 rfl (Nat.le_of_ble_eq_true rfl) dX3_join_96 ⟨Nat.zero_le _, Nat.zero_le _⟩ (fun u27 H locs hw hP hD hS => ?_)
            refine lv_aload_n hx hb dX3_join_99 rfl (lv_at hl 1 rfl) ?_
            refine lv_iload_n hx hb dX3_join_100 rfl (lv_at hl 0 rfl) ?_
            refine CtI.call (As := [.int r22]) (rest := []) (c_X3_settle l G am cI cZ r22 u27 _ hw) ⟨hx, hb, hml, hown, hts⟩ (cwV 1 hts gX3_join_X3_settle rfl rfl rfl (by decide +kernel) ⟨Nat.le_of_ble_eq_true rfl, Nat.le_of_ble_eq_true rfl⟩) (va_recv hK hP (ci := 3) (q0 := 0) rfl rfl) hK hP hD hS hA rfl hl.1 rfl (Nat.le_of_ble_eq_true rfl) dX3_join_101 ⟨Nat.zero_le _, Nat.zero_le _⟩ (fun r29 u28 H locs hw hP hD hS => ?_)
            exact hret r29 u28 104 _ _ _ dX3_join_104 rfl hw hP hD hS
          · have hw := brN.f hw c23
            refine lv_bipush (v := (-2)) hx hb dX3_join_76 (by decide) ?_
            exact hret (-2) u21 78 _ _ _ dX3_join_78 rfl hw hP hD hS
        · have hw := brN.f hw c20
          refine lv_aload_n hx hb dX3_join_41 rfl (lv_at hl 0 rfl) ?_
          refine lv_aload_n hx hb dX3_join_42 rfl (lv_at hl 0 rfl) ?_
          refine va_get (D := G) (ci := 3) (v := .ref (am 10)) (C := RX3) (T := TX3) (N := 24) hx hb hts hiX3 hown hK hP 0 rfl rfl 16 (by decide) (hts (.fieldLink RX3 38 "TreapVersionsModel" "root" "[I") (by decide +kernel)) (fun _ h9 => h9) rfl dX3_join_43 ?_
          refine lv_iload_n hx hb dX3_join_46 rfl (lv_at hl 1 rfl) ?_
          refine va_iald hx hb hK hP 10 0 rfl rfl (rdA.hin hw) dX3_join_47 ?_
          refine lv_topi (fun z30 ez30 => ?_)
          have hw := rdA.go hw z30 ez30
          refine CtI.call (As := [.int z30]) (rest := []) (c_X3_greatest l G am cI cZ z30 u5 _ hw) ⟨hx, hb, hml, hown, hts⟩ (cwV 1 hts gX3_join_X3_greatest rfl rfl rfl (by decide +kernel) ⟨Nat.le_of_ble_eq_true rfl, Nat.le_of_ble_eq_true rfl⟩) (va_recv hK hP (ci := 3) (q0 := 0) rfl rfl) hK hP hD hS hA rfl hl.1 rfl (Nat.le_of_ble_eq_true rfl) dX3_join_48 ⟨Nat.zero_le _, Nat.zero_le _⟩ (fun r32 u31 H locs hw hP hD hS => ?_)
          refine lv_aload_n hx hb dX3_join_51 rfl (lv_at hl 0 rfl) ?_
          refine lv_aload_n hx hb dX3_join_52 rfl (lv_at hl 0 rfl) ?_
          refine va_get (D := G) (ci := 3) (v := .ref (am 10)) (C := RX3) (T := TX3) (N := 24) hx hb hts hiX3 hown hK hP 0 rfl rfl 16 (by decide) (hts (.fieldLink RX3 38 "TreapVersionsModel" "root" "[I") (by decide +kernel)) (fun _ h9 => h9) rfl dX3_join_53 ?_
          refine lv_iload_n hx hb dX3_join_56 rfl (lv_at hl 2 rfl) ?_
          refine va_iald hx hb hK hP 10 0 rfl rfl (rdA.hin hw) dX3_join_57 ?_
          refine lv_topi (fun z33 ez33 => ?_)
          have hw := rdA.go hw z33 ez33
          refine CtI.call (As := [.int z33]) (rest := [.int r32]) (c_X3_least l G am cI cZ z33 u31 _ hw) ⟨hx, hb, hml, hown, hts⟩ (cwV 1 hts gX3_join_X3_least rfl rfl rfl (by decide +kernel) ⟨Nat.le_of_ble_eq_true rfl, Nat.le_of_ble_eq_true rfl⟩) (va_recv hK hP (ci := 3) (q0 := 0) rfl rfl) hK hP hD hS hA rfl hl.1 rfl (Nat.le_of_ble_eq_true rfl) dX3_join_58 ⟨Nat.zero_le _, Nat.zero_le _⟩ (fun r35 u34 H locs hw hP hD hS => ?_)
          refine lv_icmp_lt (tgt := 67) hx hb dX3_join_61 (by decide) (fun c36 => ?_) (fun c36 => ?_)
          · have hw := brN.t hw c36
            refine lv_aload_n hx hb dX3_join_67 rfl (lv_at hl 0 rfl) ?_
            refine CtI.call (As := []) (rest := []) (c_X3_freeHandle l G am cI cZ u34 _ hw) ⟨hx, hb, hml, hown, hts⟩ (cwV 0 hts gX3_join_X3_freeHandle rfl rfl rfl (by decide +kernel) ⟨Nat.le_of_ble_eq_true rfl, Nat.le_of_ble_eq_true rfl⟩) (va_recv hK hP (ci := 3) (q0 := 0) rfl rfl) hK hP hD hS hA rfl hl.1 rfl (Nat.le_of_ble_eq_true rfl) dX3_join_68 ⟨Nat.zero_le _, Nat.zero_le _⟩ (fun r38 u37 H locs hw hP hD hS => ?_)
            refine lv_istore_n (lv' := [(3, .int r38), (0, .ref (am 0)), (1, .int p0), (2, .int p1)]) hx hb dX3_join_71 rfl hl (by decide) rfl (fun ls hl => ?_)
            refine lv_iload_n hx hb dX3_join_72 rfl (lv_at hl 0 rfl) ?_
            refine lv_if_ge (tgt := 79) hx hb dX3_join_73 (by decide) (fun c39 => ?_) (fun c39 => ?_)
            · have hw := brN.t hw c39
              refine lv_aload_n hx hb dX3_join_79 rfl (lv_at hl 1 rfl) ?_
              refine CtV.call (As := []) (rest := []) (c_X3_begin l G am cI cZ u37 _ hw) ⟨hx, hb, hml, hown, hts⟩ (cwV 0 hts gX3_join_X3_begin rfl rfl rfl (by decide +kernel) ⟨Nat.le_of_ble_eq_true rfl, Nat.le_of_ble_eq_true rfl⟩) (va_recv hK hP (ci := 3) (q0 := 0) rfl rfl) hK hP hD hS hA rfl hl.1 rfl (Nat.le_of_ble_eq_true rfl) dX3_join_80 ⟨Nat.zero_le _, Nat.zero_le _⟩ (fun u40 H locs hw hP hD hS => ?_)
              refine lv_aload_n hx hb dX3_join_83 rfl (lv_at hl 1 rfl) ?_
              refine lv_aload_n hx hb dX3_join_84 rfl (lv_at hl 1 rfl) ?_
              refine va_get (D := G) (ci := 3) (v := .ref (am 10)) (C := RX3) (T := TX3) (N := 24) hx hb hts hiX3 hown hK hP 0 rfl rfl 16 (by decide) (hts (.fieldLink RX3 38 "TreapVersionsModel" "root" "[I") (by decide +kernel)) (fun _ h9 => h9) rfl dX3_join_85 ?_
              refine lv_iload_n hx hb dX3_join_88 rfl (lv_at hl 2 rfl) ?_
              refine va_iald hx hb hK hP 10 0 rfl rfl (rdA.hin hw) dX3_join_89 ?_
              refine lv_topi (fun z41 ez41 => ?_)
              have hw := rdA.go hw z41 ez41
              refine lv_aload_n hx hb dX3_join_90 rfl (lv_at hl 1 rfl) ?_
              refine va_get (D := G) (ci := 3) (v := .ref (am 10)) (C := RX3) (T := TX3) (N := 24) hx hb hts hiX3 hown hK hP 0 rfl rfl 16 (by decide) (hts (.fieldLink RX3 38 "TreapVersionsModel" "root" "[I") (by decide +kernel)) (fun _ h9 => h9) rfl dX3_join_91 ?_
              refine lv_iload_n hx hb dX3_join_94 rfl (lv_at hl 3 rfl) ?_
              refine va_iald hx hb hK hP 10 0 rfl rfl (rdA.hin hw) dX3_join_95 ?_
              refine lv_topi (fun z42 ez42 => ?_)
              have hw := rdA.go hw z42 ez42
              refine CtV.call (As := [.int z41, .int z42]) (rest := []) (c_X3_joint l G am cI cZ z41 z42 u40 _ hw) ⟨hx, hb, hml, hown, hts⟩ (cwV 2 hts gX3_join_X3_joint rfl rfl rfl (by decide +kernel) ⟨Nat.le_of_ble_eq_true rfl, Nat.le_of_ble_eq_true rfl⟩) (va_recv hK hP (ci := 3) (q0 := 0) rfl rfl) hK hP hD hS hA rfl hl.1 rfl (Nat.le_of_ble_eq_true rfl) dX3_join_96 ⟨Nat.zero_le _, Nat.zero_le _⟩ (fun u43 H locs hw hP hD hS => ?_)
              refine lv_aload_n hx hb dX3_join_99 rfl (lv_at hl 1 rfl) ?_
              refine lv_iload_n hx hb dX3_join_100 rfl (lv_at hl 0 rfl) ?_
              refine CtI.call (As := [.int r38]) (rest := []) (c_X3_settle l G am cI cZ r38 u43 _ hw) ⟨hx, hb, hml, hown, hts⟩ (cwV 1 hts gX3_join_X3_settle rfl rfl rfl (by decide +kernel) ⟨Nat.le_of_ble_eq_true rfl, Nat.le_of_ble_eq_true rfl⟩) (va_recv hK hP (ci := 3) (q0 := 0) rfl rfl) hK hP hD hS hA rfl hl.1 rfl (Nat.le_of_ble_eq_true rfl) dX3_join_101 ⟨Nat.zero_le _, Nat.zero_le _⟩ (fun r45 u44 H locs hw hP hD hS => ?_)
              exact hret r45 u44 104 _ _ _ dX3_join_104 rfl hw hP hD hS
            · have hw := brN.f hw c39
              refine lv_bipush (v := (-2)) hx hb dX3_join_76 (by decide) ?_
              exact hret (-2) u37 78 _ _ _ dX3_join_78 rfl hw hP hD hS
          · have hw := brN.f hw c36
            refine lv_bipush (v := (-4)) hx hb dX3_join_64 (by decide) ?_
            exact hret (-4) u34 66 _ _ _ dX3_join_66 rfl hw hP hD hS
    · have hw := brN.t hw c7
      refine lv_iconst (v := (-1)) hx hb dX3_join_21 (by decide) ?_
      exact hret (-1) u5 22 _ _ _ dX3_join_22 rfl hw hP hD hS
set_option maxHeartbeats 4000000 in
set_option maxRecDepth 100000 in
theorem c_X3_drop (l : Launch) (G : va_G) (am : Nat → Nat) (cI cZ : ClassId) (p0 : Int32) (u : CS) (post : Int32 → CS → Prop) (hw : wp_X3_drop p0 u post) : CtI l yX3_drop wsX3_drop ({ frames := 1, cells := 0, slots := 0, locals := 21 }) G (ty2 cI cZ) (mw am cI cZ) [.ref (am 0), .int p0] u (fun r u => isB r ∧ post r u) := by
  refine CtI.of (cc := cX3_drop) (maxL := 2) (rt := .boolean) (by decide) rfl (Nat.le_of_ble_eq_true rfl) ?_
  intro p e s m below meth c A Q hx hb hml hts hown hK hA hret ls hl hP hD hS
  have hiX3 : ∀ w ∈ u_ws RX3 TX3 24, w ∈ wsX3_drop := by decide +kernel
  have hown : s.vm.findClass RX3 = some m.cls := hown
  have hl : lv_has ls 2 [(0, .ref (am 0)), (1, .int p0)] := hl
  unfold wp_X3_drop at hw
  refine lv_aload_n hx hb dX3_drop_0 rfl (lv_at hl 0 rfl) ?_
  refine lv_iconst (v := 0) hx hb dX3_drop_1 (by decide) ?_
  refine va_put (D := G) (ci := 3) (v := .int 0) (ty := .int) (C := RX3) (T := TX3) (N := 24) hx hb hts hiX3 tyX3 tyX3_ok nmX3 hown hK hP hD hS 0 rfl rfl 0 (by decide) (hts (.fieldLink RX3 54 "TreapVersionsModel" "thrown" "I") (by decide +kernel)) (fun _ h9 => h9) rfl (by decide +kernel) rfl rfl (Nat.le_of_ble_eq_true rfl) dX3_drop_2 (fun H locs hP hD hS => ?_)
  obtain ⟨u1, eu1⟩ : ∃ z : CS, z = cset u 0 (fun _ => 0) := ⟨_, rfl⟩
  have hP : va_P G vwCl (mw am cI cZ (cset u 0 (fun _ => 0))) H := hP
  have hD : va_D A (mw am cI cZ (cset u 0 (fun _ => 0))) := hD
  rw [← eu1] at hP hD
  have hw := stF.go hw u1 eu1
  refine lv_aload_n hx hb dX3_drop_5 rfl (lv_at hl 0 rfl) ?_
  refine lv_iload_n hx hb dX3_drop_6 rfl (lv_at hl 1 rfl) ?_
  refine CtI.call (As := [.int p0]) (rest := []) (c_X3_has l G am cI cZ p0 u1 _ hw) ⟨hx, hb, hml, hown, hts⟩ (cwV 1 hts gX3_drop_X3_has rfl rfl rfl (by decide +kernel) ⟨Nat.le_of_ble_eq_true rfl, Nat.le_of_ble_eq_true rfl⟩) (va_recv hK hP (ci := 3) (q0 := 0) rfl rfl) hK hP hD hS hA rfl hl.1 rfl (Nat.le_of_ble_eq_true rfl) dX3_drop_7 ⟨Nat.zero_le _, Nat.zero_le _⟩ (fun r3 u2 H locs hw hP hD hS => ?_)
  obtain ⟨hz, hw⟩ := hw
  refine lv_if_ne (tgt := 15) hx hb dX3_drop_10 (by decide) (fun c4 => ?_) (fun c4 => ?_)
  · have hw := brN.f hw c4
    refine lv_aload_n hx hb dX3_drop_15 rfl (lv_at hl 0 rfl) ?_
    refine va_get (D := G) (ci := 3) (v := .ref (am 9)) (C := RX3) (T := TX3) (N := 24) hx hb hts hiX3 hown hK hP 0 rfl rfl 15 (by decide) (hts (.fieldLink RX3 35 "TreapVersionsModel" "isLive" "[Z") (by decide +kernel)) (fun _ h9 => h9) rfl dX3_drop_16 ?_
    refine lv_iload_n hx hb dX3_drop_19 rfl (lv_at hl 1 rfl) ?_
    refine lv_iconst (v := 0) hx hb dX3_drop_20 (by decide) ?_
    refine va_zast hx hb hK hP hD hS 9 1 rfl rfl (wrZ.hin hw) dX3_drop_21 (fun H locs hP hD hS => ?_)
    obtain ⟨u5, eu5⟩ : ∃ z : CS, z = cset u2 15 (upd (u2 15) p0.toNatClampNeg (vp_nar .boolean 0)) := ⟨_, rfl⟩
    have hP : va_P G vwCl (mw am cI cZ (cset u2 15 (upd (u2 15) p0.toNatClampNeg (vp_nar .boolean 0)))) H := hP
    have hD : va_D A (mw am cI cZ (cset u2 15 (upd (u2 15) p0.toNatClampNeg (vp_nar .boolean 0)))) := hD
    rw [← eu5] at hP hD
    have hw := wrZ.go hw u5 eu5
    refine lv_aload_n hx hb dX3_drop_22 rfl (lv_at hl 0 rfl) ?_
    refine va_get (D := G) (ci := 3) (v := .ref (am 10)) (C := RX3) (T := TX3) (N := 24) hx hb hts hiX3 hown hK hP 0 rfl rfl 16 (by decide) (hts (.fieldLink RX3 38 "TreapVersionsModel" "root" "[I") (by decide +kernel)) (fun _ h9 => h9) rfl dX3_drop_23 ?_
    refine lv_iload_n hx hb dX3_drop_26 rfl (lv_at hl 1 rfl) ?_
    refine lv_iconst (v := (-1)) hx hb dX3_drop_27 (by decide) ?_
    refine va_iast hx hb hK hP hD hS 10 0 rfl rfl (wrA.hin hw) dX3_drop_28 (fun H locs hP hD hS => ?_)
    obtain ⟨u6, eu6⟩ : ∃ z : CS, z = cset u5 16 (upd (u5 16) p0.toNatClampNeg (-1)) := ⟨_, rfl⟩
    have hP : va_P G vwCl (mw am cI cZ (cset u5 16 (upd (u5 16) p0.toNatClampNeg (-1)))) H := hP
    have hD : va_D A (mw am cI cZ (cset u5 16 (upd (u5 16) p0.toNatClampNeg (-1)))) := hD
    rw [← eu6] at hP hD
    have hw := wrA.go hw u6 eu6
    refine lv_iconst (v := 1) hx hb dX3_drop_29 (by decide) ?_
    exact hret 1 u6 30 _ _ _ dX3_drop_30 rfl ⟨isB_1, hw⟩ hP hD hS
  · have hw := brN.t hw c4
    refine lv_iconst (v := 0) hx hb dX3_drop_13 (by decide) ?_
    exact hret 0 u2 14 _ _ _ dX3_drop_14 rfl ⟨isB_0, hw⟩ hP hD hS
set_option maxHeartbeats 4000000 in
set_option maxRecDepth 100000 in
theorem c_X3_isLive (l : Launch) (G : va_G) (am : Nat → Nat) (cI cZ : ClassId) (p0 : Int32) (u : CS) (post : Int32 → CS → Prop) (hw : wp_X3_isLive p0 u post) : CtI l yX3_isLive wsX3_isLive ({ frames := 1, cells := 0, slots := 0, locals := 21 }) G (ty2 cI cZ) (mw am cI cZ) [.ref (am 0), .int p0] u (fun r u => isB r ∧ post r u) := by
  refine CtI.of (cc := cX3_isLive) (maxL := 2) (rt := .boolean) (by decide) rfl (Nat.le_of_ble_eq_true rfl) ?_
  intro p e s m below meth c A Q hx hb hml hts hown hK hA hret ls hl hP hD hS
  have hiX3 : ∀ w ∈ u_ws RX3 TX3 24, w ∈ wsX3_isLive := by decide +kernel
  have hown : s.vm.findClass RX3 = some m.cls := hown
  have hl : lv_has ls 2 [(0, .ref (am 0)), (1, .int p0)] := hl
  unfold wp_X3_isLive at hw
  refine lv_aload_n hx hb dX3_isLive_0 rfl (lv_at hl 0 rfl) ?_
  refine lv_iconst (v := 0) hx hb dX3_isLive_1 (by decide) ?_
  refine va_put (D := G) (ci := 3) (v := .int 0) (ty := .int) (C := RX3) (T := TX3) (N := 24) hx hb hts hiX3 tyX3 tyX3_ok nmX3 hown hK hP hD hS 0 rfl rfl 0 (by decide) (hts (.fieldLink RX3 54 "TreapVersionsModel" "thrown" "I") (by decide +kernel)) (fun _ h9 => h9) rfl (by decide +kernel) rfl rfl (Nat.le_of_ble_eq_true rfl) dX3_isLive_2 (fun H locs hP hD hS => ?_)
  obtain ⟨u1, eu1⟩ : ∃ z : CS, z = cset u 0 (fun _ => 0) := ⟨_, rfl⟩
  have hP : va_P G vwCl (mw am cI cZ (cset u 0 (fun _ => 0))) H := hP
  have hD : va_D A (mw am cI cZ (cset u 0 (fun _ => 0))) := hD
  rw [← eu1] at hP hD
  have hw := stF.go hw u1 eu1
  refine lv_aload_n hx hb dX3_isLive_5 rfl (lv_at hl 0 rfl) ?_
  refine lv_iload_n hx hb dX3_isLive_6 rfl (lv_at hl 1 rfl) ?_
  refine CtI.call (As := [.int p0]) (rest := []) (c_X3_has l G am cI cZ p0 u1 _ hw) ⟨hx, hb, hml, hown, hts⟩ (cwV 1 hts gX3_isLive_X3_has rfl rfl rfl (by decide +kernel) ⟨Nat.le_of_ble_eq_true rfl, Nat.le_of_ble_eq_true rfl⟩) (va_recv hK hP (ci := 3) (q0 := 0) rfl rfl) hK hP hD hS hA rfl hl.1 rfl (Nat.le_of_ble_eq_true rfl) dX3_isLive_7 ⟨Nat.zero_le _, Nat.zero_le _⟩ (fun r3 u2 H locs hw hP hD hS => ?_)
  obtain ⟨hz, hw⟩ := hw
  exact hret r3 u2 10 _ _ _ dX3_isLive_10 (isB_nar hz) ⟨hz, hw⟩ hP hD hS
set_option maxHeartbeats 4000000 in
set_option maxRecDepth 100000 in
theorem c_X3_get (l : Launch) (G : va_G) (am : Nat → Nat) (cI cZ : ClassId) (p0 : Int32) (p1 : Int32) (u : CS) (post : Int32 → CS → Prop) (hw : wp_X3_get p0 p1 u post) : CtI l yX3_get wsX3_get ({ frames := 1, cells := 0, slots := 0, locals := 23 }) G (ty2 cI cZ) (mw am cI cZ) [.ref (am 0), .int p0, .int p1] u post := by
  refine CtI.of (cc := cX3_get) (maxL := 4) (rt := .int) (by decide) rfl (Nat.le_of_ble_eq_true rfl) ?_
  intro p e s m below meth c A Q hx hb hml hts hown hK hA hret ls hl hP hD hS
  have hiX3 : ∀ w ∈ u_ws RX3 TX3 24, w ∈ wsX3_get := by decide +kernel
  have hown : s.vm.findClass RX3 = some m.cls := hown
  have hl : lv_has ls 4 [(0, .ref (am 0)), (1, .int p0), (2, .int p1)] := hl
  unfold wp_X3_get at hw
  refine lv_aload_n hx hb dX3_get_0 rfl (lv_at hl 0 rfl) ?_
  refine lv_iload_n hx hb dX3_get_1 rfl (lv_at hl 1 rfl) ?_
  refine CtI.call (As := [.int p0]) (rest := []) (c_X3_has l G am cI cZ p0 u _ hw) ⟨hx, hb, hml, hown, hts⟩ (cwV 1 hts gX3_get_X3_has rfl rfl rfl (by decide +kernel) ⟨Nat.le_of_ble_eq_true rfl, Nat.le_of_ble_eq_true rfl⟩) (va_recv hK hP (ci := 3) (q0 := 0) rfl rfl) hK hP hD hS hA rfl hl.1 rfl (Nat.le_of_ble_eq_true rfl) dX3_get_2 ⟨Nat.zero_le _, Nat.zero_le _⟩ (fun r2 u1 H locs hw hP hD hS => ?_)
  obtain ⟨hz, hw⟩ := hw
  refine lv_if_eq (tgt := 22) hx hb dX3_get_5 (by decide) (fun c3 => ?_) (fun c3 => ?_)
  · have hw := brN.t hw c3
    refine lv_iconst (v := (-1)) hx hb dX3_get_22 (by decide) ?_
    refine lv_istore_n (lv' := [(3, .int (-1)), (0, .ref (am 0)), (1, .int p0), (2, .int p1)]) hx hb dX3_get_23 rfl hl (by decide) rfl (fun ls hl => ?_)
    refine lv_aload_n hx hb dX3_get_24 rfl (lv_at hl 1 rfl) ?_
    refine lv_iload_n hx hb dX3_get_25 rfl (lv_at hl 0 rfl) ?_
    refine lv_if_ge (tgt := 33) hx hb dX3_get_26 (by decide) (fun c4 => ?_) (fun c4 => ?_)
    · exact absurd c4 (by decide)
    · refine lv_iconst (v := 1) hx hb dX3_get_29 (by decide) ?_
      refine lv_goto (tgt := 34) hx hb dX3_get_30 (by decide) ?_
      refine va_put (D := G) (ci := 3) (v := .int 1) (ty := .int) (C := RX3) (T := TX3) (N := 24) hx hb hts hiX3 tyX3 tyX3_ok nmX3 hown hK hP hD hS 0 rfl rfl 0 (by decide) (hts (.fieldLink RX3 54 "TreapVersionsModel" "thrown" "I") (by decide +kernel)) (fun _ h9 => h9) rfl (by decide +kernel) rfl rfl (Nat.le_of_ble_eq_true rfl) dX3_get_34 (fun H locs hP hD hS => ?_)
      obtain ⟨u5, eu5⟩ : ∃ z : CS, z = cset u1 0 (fun _ => 1) := ⟨_, rfl⟩
      have hP : va_P G vwCl (mw am cI cZ (cset u1 0 (fun _ => 1))) H := hP
      have hD : va_D A (mw am cI cZ (cset u1 0 (fun _ => 1))) := hD
      rw [← eu5] at hP hD
      have hw := stF.go hw u5 eu5
      refine lv_iload_n hx hb dX3_get_37 rfl (lv_at hl 0 rfl) ?_
      refine lv_if_ge (tgt := 45) hx hb dX3_get_38 (by decide) (fun c6 => ?_) (fun c6 => ?_)
      · exact absurd c6 (by decide)
      · refine lv_iconst (v := 0) hx hb dX3_get_41 (by decide) ?_
        refine lv_goto (tgt := 51) hx hb dX3_get_42 (by decide) ?_
        exact hret 0 u5 51 _ _ _ dX3_get_51 rfl hw hP hD hS
  · have hw := brN.f hw c3
    refine lv_aload_n hx hb dX3_get_8 rfl (lv_at hl 0 rfl) ?_
    refine lv_aload_n hx hb dX3_get_9 rfl (lv_at hl 0 rfl) ?_
    refine va_get (D := G) (ci := 3) (v := .ref (am 10)) (C := RX3) (T := TX3) (N := 24) hx hb hts hiX3 hown hK hP 0 rfl rfl 16 (by decide) (hts (.fieldLink RX3 38 "TreapVersionsModel" "root" "[I") (by decide +kernel)) (fun _ h9 => h9) rfl dX3_get_10 ?_
    refine lv_iload_n hx hb dX3_get_13 rfl (lv_at hl 1 rfl) ?_
    refine va_iald hx hb hK hP 10 0 rfl rfl (rdA.hin hw) dX3_get_14 ?_
    refine lv_topi (fun z7 ez7 => ?_)
    have hw := rdA.go hw z7 ez7
    refine lv_iload_n hx hb dX3_get_15 rfl (lv_at hl 2 rfl) ?_
    refine CtI.call (As := [.int z7, .int p1]) (rest := []) (c_X3_find l G am cI cZ z7 p1 u1 _ hw) ⟨hx, hb, hml, hown, hts⟩ (cwV 2 hts gX3_get_X3_find rfl rfl rfl (by decide +kernel) ⟨Nat.le_of_ble_eq_true rfl, Nat.le_of_ble_eq_true rfl⟩) (va_recv hK hP (ci := 3) (q0 := 0) rfl rfl) hK hP hD hS hA rfl hl.1 rfl (Nat.le_of_ble_eq_true rfl) dX3_get_16 ⟨Nat.zero_le _, Nat.zero_le _⟩ (fun r9 u8 H locs hw hP hD hS => ?_)
    refine lv_goto (tgt := 23) hx hb dX3_get_19 (by decide) ?_
    refine lv_istore_n (lv' := [(3, .int r9), (0, .ref (am 0)), (1, .int p0), (2, .int p1)]) hx hb dX3_get_23 rfl hl (by decide) rfl (fun ls hl => ?_)
    refine lv_aload_n hx hb dX3_get_24 rfl (lv_at hl 1 rfl) ?_
    refine lv_iload_n hx hb dX3_get_25 rfl (lv_at hl 0 rfl) ?_
    refine lv_if_ge (tgt := 33) hx hb dX3_get_26 (by decide) (fun c10 => ?_) (fun c10 => ?_)
    · have hw := brN.t hw c10
      refine lv_iconst (v := 0) hx hb dX3_get_33 (by decide) ?_
      refine va_put (D := G) (ci := 3) (v := .int 0) (ty := .int) (C := RX3) (T := TX3) (N := 24) hx hb hts hiX3 tyX3 tyX3_ok nmX3 hown hK hP hD hS 0 rfl rfl 0 (by decide) (hts (.fieldLink RX3 54 "TreapVersionsModel" "thrown" "I") (by decide +kernel)) (fun _ h9 => h9) rfl (by decide +kernel) rfl rfl (Nat.le_of_ble_eq_true rfl) dX3_get_34 (fun H locs hP hD hS => ?_)
      obtain ⟨u11, eu11⟩ : ∃ z : CS, z = cset u8 0 (fun _ => 0) := ⟨_, rfl⟩
      have hP : va_P G vwCl (mw am cI cZ (cset u8 0 (fun _ => 0))) H := hP
      have hD : va_D A (mw am cI cZ (cset u8 0 (fun _ => 0))) := hD
      rw [← eu11] at hP hD
      have hw := stF.go hw u11 eu11
      refine lv_iload_n hx hb dX3_get_37 rfl (lv_at hl 0 rfl) ?_
      refine lv_if_ge (tgt := 45) hx hb dX3_get_38 (by decide) (fun c12 => ?_) (fun c12 => ?_)
      · have hw := brN.t hw c12
        refine lv_aload_n hx hb dX3_get_45 rfl (lv_at hl 1 rfl) ?_
        refine va_get (D := G) (ci := 3) (v := .ref (am 2)) (C := RX3) (T := TX3) (N := 24) hx hb hts hiX3 hown hK hP 0 rfl rfl 7 (by decide) (hts (.fieldLink RX3 13 "TreapVersionsModel" "value" "[I") (by decide +kernel)) (fun _ h9 => h9) rfl dX3_get_46 ?_
        refine lv_iload_n hx hb dX3_get_49 rfl (lv_at hl 0 rfl) ?_
        refine va_iald hx hb hK hP 2 0 rfl rfl (rdA.hin hw) dX3_get_50 ?_
        refine lv_topi (fun z13 ez13 => ?_)
        have hw := rdA.go hw z13 ez13
        exact hret z13 u11 51 _ _ _ dX3_get_51 rfl hw hP hD hS
      · have hw := brN.f hw c12
        refine lv_iconst (v := 0) hx hb dX3_get_41 (by decide) ?_
        refine lv_goto (tgt := 51) hx hb dX3_get_42 (by decide) ?_
        exact hret 0 u11 51 _ _ _ dX3_get_51 rfl hw hP hD hS
    · have hw := brN.f hw c10
      refine lv_iconst (v := 1) hx hb dX3_get_29 (by decide) ?_
      refine lv_goto (tgt := 34) hx hb dX3_get_30 (by decide) ?_
      refine va_put (D := G) (ci := 3) (v := .int 1) (ty := .int) (C := RX3) (T := TX3) (N := 24) hx hb hts hiX3 tyX3 tyX3_ok nmX3 hown hK hP hD hS 0 rfl rfl 0 (by decide) (hts (.fieldLink RX3 54 "TreapVersionsModel" "thrown" "I") (by decide +kernel)) (fun _ h9 => h9) rfl (by decide +kernel) rfl rfl (Nat.le_of_ble_eq_true rfl) dX3_get_34 (fun H locs hP hD hS => ?_)
      obtain ⟨u14, eu14⟩ : ∃ z : CS, z = cset u8 0 (fun _ => 1) := ⟨_, rfl⟩
      have hP : va_P G vwCl (mw am cI cZ (cset u8 0 (fun _ => 1))) H := hP
      have hD : va_D A (mw am cI cZ (cset u8 0 (fun _ => 1))) := hD
      rw [← eu14] at hP hD
      have hw := stF.go hw u14 eu14
      refine lv_iload_n hx hb dX3_get_37 rfl (lv_at hl 0 rfl) ?_
      refine lv_if_ge (tgt := 45) hx hb dX3_get_38 (by decide) (fun c15 => ?_) (fun c15 => ?_)
      · have hw := brN.t hw c15
        refine lv_aload_n hx hb dX3_get_45 rfl (lv_at hl 1 rfl) ?_
        refine va_get (D := G) (ci := 3) (v := .ref (am 2)) (C := RX3) (T := TX3) (N := 24) hx hb hts hiX3 hown hK hP 0 rfl rfl 7 (by decide) (hts (.fieldLink RX3 13 "TreapVersionsModel" "value" "[I") (by decide +kernel)) (fun _ h9 => h9) rfl dX3_get_46 ?_
        refine lv_iload_n hx hb dX3_get_49 rfl (lv_at hl 0 rfl) ?_
        refine va_iald hx hb hK hP 2 0 rfl rfl (rdA.hin hw) dX3_get_50 ?_
        refine lv_topi (fun z16 ez16 => ?_)
        have hw := rdA.go hw z16 ez16
        exact hret z16 u14 51 _ _ _ dX3_get_51 rfl hw hP hD hS
      · have hw := brN.f hw c15
        refine lv_iconst (v := 0) hx hb dX3_get_41 (by decide) ?_
        refine lv_goto (tgt := 51) hx hb dX3_get_42 (by decide) ?_
        exact hret 0 u14 51 _ _ _ dX3_get_51 rfl hw hP hD hS
set_option maxHeartbeats 4000000 in
set_option maxRecDepth 100000 in
theorem c_X3_contains (l : Launch) (G : va_G) (am : Nat → Nat) (cI cZ : ClassId) (p0 : Int32) (p1 : Int32) (u : CS) (post : Int32 → CS → Prop) (hw : wp_X3_contains p0 p1 u post) : CtI l yX3_contains wsX3_contains ({ frames := 1, cells := 0, slots := 0, locals := 23 }) G (ty2 cI cZ) (mw am cI cZ) [.ref (am 0), .int p0, .int p1] u (fun r u => isB r ∧ post r u) := by
  refine CtI.of (cc := cX3_contains) (maxL := 3) (rt := .boolean) (by decide) rfl (Nat.le_of_ble_eq_true rfl) ?_
  intro p e s m below meth c A Q hx hb hml hts hown hK hA hret ls hl hP hD hS
  have hiX3 : ∀ w ∈ u_ws RX3 TX3 24, w ∈ wsX3_contains := by decide +kernel
  have hown : s.vm.findClass RX3 = some m.cls := hown
  have hl : lv_has ls 3 [(0, .ref (am 0)), (1, .int p0), (2, .int p1)] := hl
  unfold wp_X3_contains at hw
  refine lv_aload_n hx hb dX3_contains_0 rfl (lv_at hl 0 rfl) ?_
  refine lv_iconst (v := 0) hx hb dX3_contains_1 (by decide) ?_
  refine va_put (D := G) (ci := 3) (v := .int 0) (ty := .int) (C := RX3) (T := TX3) (N := 24) hx hb hts hiX3 tyX3 tyX3_ok nmX3 hown hK hP hD hS 0 rfl rfl 0 (by decide) (hts (.fieldLink RX3 54 "TreapVersionsModel" "thrown" "I") (by decide +kernel)) (fun _ h9 => h9) rfl (by decide +kernel) rfl rfl (Nat.le_of_ble_eq_true rfl) dX3_contains_2 (fun H locs hP hD hS => ?_)
  obtain ⟨u1, eu1⟩ : ∃ z : CS, z = cset u 0 (fun _ => 0) := ⟨_, rfl⟩
  have hP : va_P G vwCl (mw am cI cZ (cset u 0 (fun _ => 0))) H := hP
  have hD : va_D A (mw am cI cZ (cset u 0 (fun _ => 0))) := hD
  rw [← eu1] at hP hD
  have hw := stF.go hw u1 eu1
  refine lv_aload_n hx hb dX3_contains_5 rfl (lv_at hl 0 rfl) ?_
  refine lv_iload_n hx hb dX3_contains_6 rfl (lv_at hl 1 rfl) ?_
  refine CtI.call (As := [.int p0]) (rest := []) (c_X3_has l G am cI cZ p0 u1 _ hw) ⟨hx, hb, hml, hown, hts⟩ (cwV 1 hts gX3_contains_X3_has rfl rfl rfl (by decide +kernel) ⟨Nat.le_of_ble_eq_true rfl, Nat.le_of_ble_eq_true rfl⟩) (va_recv hK hP (ci := 3) (q0 := 0) rfl rfl) hK hP hD hS hA rfl hl.1 rfl (Nat.le_of_ble_eq_true rfl) dX3_contains_7 ⟨Nat.zero_le _, Nat.zero_le _⟩ (fun r3 u2 H locs hw hP hD hS => ?_)
  obtain ⟨hz, hw⟩ := hw
  refine lv_if_eq (tgt := 31) hx hb dX3_contains_10 (by decide) (fun c4 => ?_) (fun c4 => ?_)
  · have hw := brN.t hw c4
    refine lv_iconst (v := 0) hx hb dX3_contains_31 (by decide) ?_
    exact hret 0 u2 32 _ _ _ dX3_contains_32 rfl ⟨isB_0, hw⟩ hP hD hS
  · have hw := brN.f hw c4
    refine lv_aload_n hx hb dX3_contains_13 rfl (lv_at hl 0 rfl) ?_
    refine lv_aload_n hx hb dX3_contains_14 rfl (lv_at hl 0 rfl) ?_
    refine va_get (D := G) (ci := 3) (v := .ref (am 10)) (C := RX3) (T := TX3) (N := 24) hx hb hts hiX3 hown hK hP 0 rfl rfl 16 (by decide) (hts (.fieldLink RX3 38 "TreapVersionsModel" "root" "[I") (by decide +kernel)) (fun _ h9 => h9) rfl dX3_contains_15 ?_
    refine lv_iload_n hx hb dX3_contains_18 rfl (lv_at hl 1 rfl) ?_
    refine va_iald hx hb hK hP 10 0 rfl rfl (rdA.hin hw) dX3_contains_19 ?_
    refine lv_topi (fun z5 ez5 => ?_)
    have hw := rdA.go hw z5 ez5
    refine lv_iload_n hx hb dX3_contains_20 rfl (lv_at hl 2 rfl) ?_
    refine CtI.call (As := [.int z5, .int p1]) (rest := []) (c_X3_find l G am cI cZ z5 p1 u2 _ hw) ⟨hx, hb, hml, hown, hts⟩ (cwV 2 hts gX3_contains_X3_find rfl rfl rfl (by decide +kernel) ⟨Nat.le_of_ble_eq_true rfl, Nat.le_of_ble_eq_true rfl⟩) (va_recv hK hP (ci := 3) (q0 := 0) rfl rfl) hK hP hD hS hA rfl hl.1 rfl (Nat.le_of_ble_eq_true rfl) dX3_contains_21 ⟨Nat.zero_le _, Nat.zero_le _⟩ (fun r7 u6 H locs hw hP hD hS => ?_)
    refine lv_if_lt (tgt := 31) hx hb dX3_contains_24 (by decide) (fun c8 => ?_) (fun c8 => ?_)
    · have hw := brN.t hw c8
      refine lv_iconst (v := 0) hx hb dX3_contains_31 (by decide) ?_
      exact hret 0 u6 32 _ _ _ dX3_contains_32 rfl ⟨isB_0, hw⟩ hP hD hS
    · have hw := brN.f hw c8
      refine lv_iconst (v := 1) hx hb dX3_contains_27 (by decide) ?_
      refine lv_goto (tgt := 32) hx hb dX3_contains_28 (by decide) ?_
      exact hret 1 u6 32 _ _ _ dX3_contains_32 rfl ⟨isB_1, hw⟩ hP hD hS
set_option maxHeartbeats 4000000 in
set_option maxRecDepth 100000 in
theorem c_X3_clear (l : Launch) (G : va_G) (am : Nat → Nat) (cI cZ : ClassId) (u : CS) (post : CS → Prop) (hw : wp_X3_clear u post) : CtV l yX3_clear wsX3_clear ({ frames := 0, cells := 0, slots := 0, locals := 0 }) G (ty2 cI cZ) (mw am cI cZ) [.ref (am 0)] u post := by
  refine CtV.of (cc := cX3_clear) (maxL := 2) (by decide) rfl (Nat.le_of_ble_eq_true rfl) ?_
  intro p e s m below meth c A Q hx hb hml hts hown hK hA hret ls hl hP hD hS
  have hiX3 : ∀ w ∈ u_ws RX3 TX3 24, w ∈ wsX3_clear := by decide +kernel
  have hown : s.vm.findClass RX3 = some m.cls := hown
  have hl : lv_has ls 2 [(0, .ref (am 0))] := hl
  have hlp2 : ∀ (n : Nat) (a1 : Int32) (u : CS), lp_X3_clear_2 post n a1 u → ∀ (H : Heap) (locs : List Loc), va_P G vwCl (mw am cI cZ u) H → va_D A (mw am cI cZ u) → va_S A s.heap H locs → ∀ ls : Array Slot, lv_has ls 2 [(0, .ref (am 0)), (1, .int a1)] → W p l e ({ frames := 0, cells := 0, slots := 0, locals := 0 }) s m ([.ref (am 0)] : List Value).toArray below meth c H locs 0 0 Q (F0 m 2 ls []) := by
    clear hw hl hP hD hS
    intro n
    induction n with
    | zero => intro a1 u hw; exact False.elim hw
    | succ n ih =>
      intro a1 u hw H locs hP hD hS ls hl
      unfold lp_X3_clear_2 at hw
      refine lv_iload_n hx hb dX3_clear_2 rfl (lv_at hl 1 rfl) ?_
      refine lv_sipush (v := 160) hx hb dX3_clear_3 (by decide) ?_
      refine lv_icmp_ge (tgt := 22) hx hb dX3_clear_6 (by decide) (fun c1 => ?_) (fun c1 => ?_)
      · have hw := brN.t hw c1
        exact hret u 22 _ _ _ dX3_clear_22 hw hP hD hS
      · have hw := brN.f hw c1
        refine lv_aload_n hx hb dX3_clear_9 rfl (lv_at hl 0 rfl) ?_
        refine va_get (D := G) (ci := 3) (v := .ref (am 7)) (C := RX3) (T := TX3) (N := 24) hx hb hts hiX3 hown hK hP 0 rfl rfl 12 (by decide) (hts (.fieldLink RX3 29 "TreapVersionsModel" "other" "[Z") (by decide +kernel)) (fun _ h9 => h9) rfl dX3_clear_10 ?_
        refine lv_iload_n hx hb dX3_clear_13 rfl (lv_at hl 1 rfl) ?_
        refine lv_iconst (v := 0) hx hb dX3_clear_14 (by decide) ?_
        refine va_zast hx hb hK hP hD hS 7 1 rfl rfl (wrZ.hin hw) dX3_clear_15 (fun H locs hP hD hS => ?_)
        obtain ⟨u2, eu2⟩ : ∃ z : CS, z = cset u 12 (upd (u 12) a1.toNatClampNeg (vp_nar .boolean 0)) := ⟨_, rfl⟩
        have hP : va_P G vwCl (mw am cI cZ (cset u 12 (upd (u 12) a1.toNatClampNeg (vp_nar .boolean 0)))) H := hP
        have hD : va_D A (mw am cI cZ (cset u 12 (upd (u 12) a1.toNatClampNeg (vp_nar .boolean 0)))) := hD
        rw [← eu2] at hP hD
        have hw := wrZ.go hw u2 eu2
        obtain ⟨z3, ez3⟩ : ∃ y : Int32, y = a1 + 1 := ⟨_, rfl⟩
        have hw := nmI.go hw z3 ez3
        refine lv_iinc (v := z3) (lv' := [(1, .int z3), (0, .ref (am 0))]) hx hb dX3_clear_16 hl (k := 1) rfl (by rw [ez3]; rfl) (by decide) rfl (fun ls hl => ?_)
        refine lv_goto (tgt := 2) hx hb dX3_clear_19 (by decide) ?_
        exact ih z3 u2 hw _ _ hP hD hS _ (lv_sub hl [1, 0] rfl)
  unfold wp_X3_clear at hw
  refine lv_iconst (v := 0) hx hb dX3_clear_0 (by decide) ?_
  refine lv_istore_n (lv' := [(1, .int 0), (0, .ref (am 0))]) hx hb dX3_clear_1 rfl hl (by decide) rfl (fun ls hl => ?_)
  obtain ⟨n9, hw⟩ := hw
  exact hlp2 n9 0 u hw _ _ hP hD hS _ (lv_sub hl [1, 0] rfl)
set_option maxHeartbeats 4000000 in
set_option maxRecDepth 100000 in
theorem c_X3_size (l : Launch) (G : va_G) (am : Nat → Nat) (cI cZ : ClassId) (p0 : Int32) (u : CS) (post : Int32 → CS → Prop) (hw : wp_X3_size p0 u post) : CtI l yX3_size wsX3_size ({ frames := 1, cells := 0, slots := 0, locals := 24 }) G (ty2 cI cZ) (mw am cI cZ) [.ref (am 0), .int p0] u post := by
  refine CtI.of (cc := cX3_size) (maxL := 2) (rt := .int) (by decide) rfl (Nat.le_of_ble_eq_true rfl) ?_
  intro p e s m below meth c A Q hx hb hml hts hown hK hA hret ls hl hP hD hS
  have hiX3 : ∀ w ∈ u_ws RX3 TX3 24, w ∈ wsX3_size := by decide +kernel
  have hown : s.vm.findClass RX3 = some m.cls := hown
  have hl : lv_has ls 2 [(0, .ref (am 0)), (1, .int p0)] := hl
  unfold wp_X3_size at hw
  refine lv_aload_n hx hb dX3_size_0 rfl (lv_at hl 0 rfl) ?_
  refine lv_iconst (v := 0) hx hb dX3_size_1 (by decide) ?_
  refine va_put (D := G) (ci := 3) (v := .int 0) (ty := .int) (C := RX3) (T := TX3) (N := 24) hx hb hts hiX3 tyX3 tyX3_ok nmX3 hown hK hP hD hS 0 rfl rfl 0 (by decide) (hts (.fieldLink RX3 54 "TreapVersionsModel" "thrown" "I") (by decide +kernel)) (fun _ h9 => h9) rfl (by decide +kernel) rfl rfl (Nat.le_of_ble_eq_true rfl) dX3_size_2 (fun H locs hP hD hS => ?_)
  obtain ⟨u1, eu1⟩ : ∃ z : CS, z = cset u 0 (fun _ => 0) := ⟨_, rfl⟩
  have hP : va_P G vwCl (mw am cI cZ (cset u 0 (fun _ => 0))) H := hP
  have hD : va_D A (mw am cI cZ (cset u 0 (fun _ => 0))) := hD
  rw [← eu1] at hP hD
  have hw := stF.go hw u1 eu1
  refine lv_aload_n hx hb dX3_size_5 rfl (lv_at hl 0 rfl) ?_
  refine CtV.call (As := []) (rest := []) (c_X3_clear l G am cI cZ u1 _ hw) ⟨hx, hb, hml, hown, hts⟩ (cwV 0 hts gX3_size_X3_clear rfl rfl rfl (by decide +kernel) ⟨Nat.le_of_ble_eq_true rfl, Nat.le_of_ble_eq_true rfl⟩) (va_recv hK hP (ci := 3) (q0 := 0) rfl rfl) hK hP hD hS hA rfl hl.1 rfl (Nat.le_of_ble_eq_true rfl) dX3_size_6 ⟨Nat.zero_le _, Nat.zero_le _⟩ (fun u2 H locs hw hP hD hS => ?_)
  refine lv_aload_n hx hb dX3_size_9 rfl (lv_at hl 0 rfl) ?_
  refine lv_iload_n hx hb dX3_size_10 rfl (lv_at hl 1 rfl) ?_
  refine CtI.call (As := [.int p0]) (rest := []) (c_X3_has l G am cI cZ p0 u2 _ hw) ⟨hx, hb, hml, hown, hts⟩ (cwV 1 hts gX3_size_X3_has rfl rfl rfl (by decide +kernel) ⟨Nat.le_of_ble_eq_true rfl, Nat.le_of_ble_eq_true rfl⟩) (va_recv hK hP (ci := 3) (q0 := 0) rfl rfl) hK hP hD hS hA rfl hl.1 rfl (Nat.le_of_ble_eq_true rfl) dX3_size_11 ⟨Nat.zero_le _, Nat.zero_le _⟩ (fun r4 u3 H locs hw hP hD hS => ?_)
  obtain ⟨hz, hw⟩ := hw
  refine lv_if_eq (tgt := 34) hx hb dX3_size_14 (by decide) (fun c5 => ?_) (fun c5 => ?_)
  · have hw := brN.t hw c5
    refine lv_iconst (v := (-1)) hx hb dX3_size_34 (by decide) ?_
    exact hret (-1) u3 35 _ _ _ dX3_size_35 rfl hw hP hD hS
  · have hw := brN.f hw c5
    refine lv_aload_n hx hb dX3_size_17 rfl (lv_at hl 0 rfl) ?_
    refine lv_aload_n hx hb dX3_size_18 rfl (lv_at hl 0 rfl) ?_
    refine va_get (D := G) (ci := 3) (v := .ref (am 10)) (C := RX3) (T := TX3) (N := 24) hx hb hts hiX3 hown hK hP 0 rfl rfl 16 (by decide) (hts (.fieldLink RX3 38 "TreapVersionsModel" "root" "[I") (by decide +kernel)) (fun _ h9 => h9) rfl dX3_size_19 ?_
    refine lv_iload_n hx hb dX3_size_22 rfl (lv_at hl 1 rfl) ?_
    refine va_iald hx hb hK hP 10 0 rfl rfl (rdA.hin hw) dX3_size_23 ?_
    refine lv_topi (fun z6 ez6 => ?_)
    have hw := rdA.go hw z6 ez6
    refine lv_aload_n hx hb dX3_size_24 rfl (lv_at hl 0 rfl) ?_
    refine va_get (D := G) (ci := 3) (v := .ref (am 7)) (C := RX3) (T := TX3) (N := 24) hx hb hts hiX3 hown hK hP 0 rfl rfl 12 (by decide) (hts (.fieldLink RX3 29 "TreapVersionsModel" "other" "[Z") (by decide +kernel)) (fun _ h9 => h9) rfl dX3_size_25 ?_
    refine CtI.call (As := [.int z6, .ref (am 7)]) (rest := []) (c_X3_markO l G am cI cZ z6 u3 _ hw) ⟨hx, hb, hml, hown, hts⟩ (cwV 2 hts gX3_size_X3_mark rfl rfl rfl (by decide +kernel) ⟨Nat.le_of_ble_eq_true rfl, Nat.le_of_ble_eq_true rfl⟩) (va_recv hK hP (ci := 3) (q0 := 0) rfl rfl) hK hP hD hS hA rfl hl.1 rfl (Nat.le_of_ble_eq_true rfl) dX3_size_28 ⟨Nat.zero_le _, Nat.zero_le _⟩ (fun r8 u7 H locs hw hP hD hS => ?_)
    refine lv_goto (tgt := 35) hx hb dX3_size_31 (by decide) ?_
    exact hret r8 u7 35 _ _ _ dX3_size_35 rfl hw hP hD hS
set_option maxHeartbeats 4000000 in
set_option maxRecDepth 100000 in
theorem c_X3_floor (l : Launch) (G : va_G) (am : Nat → Nat) (cI cZ : ClassId) (p0 : Int32) (p1 : Int32) (u : CS) (post : Int32 → CS → Prop) (hw : wp_X3_floor p0 p1 u post) : CtI l yX3_floor wsX3_floor ({ frames := 1, cells := 0, slots := 0, locals := 21 }) G (ty2 cI cZ) (mw am cI cZ) [.ref (am 0), .int p0, .int p1] u post := by
  refine CtI.of (cc := cX3_floor) (maxL := 6) (rt := .int) (by decide) rfl (Nat.le_of_ble_eq_true rfl) ?_
  intro p e s m below meth c A Q hx hb hml hts hown hK hA hret ls hl hP hD hS
  have hiX3 : ∀ w ∈ u_ws RX3 TX3 24, w ∈ wsX3_floor := by decide +kernel
  have hown : s.vm.findClass RX3 = some m.cls := hown
  have hl : lv_has ls 6 [(0, .ref (am 0)), (1, .int p0), (2, .int p1)] := hl
  have hlp27 : ∀ (n : Nat) (a2 : Int32) (a3 : Int32) (a4 : Int32) (u : CS), lp_X3_floor_27 post n a2 a3 a4 u → ∀ (H : Heap) (locs : List Loc), va_P G vwCl (mw am cI cZ u) H → va_D A (mw am cI cZ u) → va_S A s.heap H locs → ∀ ls : Array Slot, lv_has ls 6 [(0, .ref (am 0)), (2, .int a2), (3, .int a3), (4, .int a4)] → W p l e ({ frames := 1, cells := 0, slots := 0, locals := 21 }) s m ([.ref (am 0), .int p0, .int p1] : List Value).toArray below meth c H locs 0 0 Q (F0 m 27 ls []) := by
    clear hw hl hP hD hS
    intro n
    induction n with
    | zero => intro a2 a3 a4 u hw; exact False.elim hw
    | succ n ih =>
      intro a2 a3 a4 u hw H locs hP hD hS ls hl
      unfold lp_X3_floor_27 at hw
      refine lv_iload hx hb dX3_floor_27 (lv_at hl 3 rfl) ?_
      refine lv_if_lt (tgt := 111) hx hb dX3_floor_29 (by decide) (fun c5 => ?_) (fun c5 => ?_)
      · have hw := brN.t hw c5
        refine lv_iload_n hx hb dX3_floor_111 rfl (lv_at hl 2 rfl) ?_
        exact hret a3 u 112 _ _ _ dX3_floor_112 rfl hw hP hD hS
      · have hw := brN.f hw c5
        refine lv_aload_n hx hb dX3_floor_32 rfl (lv_at hl 0 rfl) ?_
        refine va_get (D := G) (ci := 3) (v := .ref (am 1)) (C := RX3) (T := TX3) (N := 24) hx hb hts hiX3 hown hK hP 0 rfl rfl 6 (by decide) (hts (.fieldLink RX3 7 "TreapVersionsModel" "key" "[I") (by decide +kernel)) (fun _ h9 => h9) rfl dX3_floor_33 ?_
        refine lv_iload hx hb dX3_floor_36 (lv_at hl 3 rfl) ?_
        refine va_iald hx hb hK hP 1 0 rfl rfl (rdA.hin hw) dX3_floor_38 ?_
        refine lv_topi (fun z6 ez6 => ?_)
        have hw := rdA.go hw z6 ez6
        refine lv_iload_n hx hb dX3_floor_39 rfl (lv_at hl 1 rfl) ?_
        refine lv_icmp_gt (tgt := 47) hx hb dX3_floor_40 (by decide) (fun c7 => ?_) (fun c7 => ?_)
        · have hw := brN.t hw c7
          refine lv_iconst (v := 0) hx hb dX3_floor_47 (by decide) ?_
          refine lv_istore (lv' := [(5, .int 0), (0, .ref (am 0)), (2, .int a2), (3, .int a3), (4, .int a4)]) hx hb dX3_floor_48 hl (by decide) rfl (fun ls hl => ?_)
          refine lv_iload hx hb dX3_floor_50 (lv_at hl 0 rfl) ?_
          refine lv_if_eq (tgt := 65) hx hb dX3_floor_52 (by decide) (fun c8 => ?_) (fun c8 => ?_)
          · refine lv_iload_n hx hb dX3_floor_65 rfl (lv_at hl 3 rfl) ?_
            refine lv_istore_n (lv' := [(3, .int a3), (5, .int 0), (0, .ref (am 0)), (2, .int a2), (4, .int a4)]) hx hb dX3_floor_66 rfl hl (by decide) rfl (fun ls hl => ?_)
            refine lv_aload_n hx hb dX3_floor_67 rfl (lv_at hl 2 rfl) ?_
            refine lv_iload hx hb dX3_floor_68 (lv_at hl 1 rfl) ?_
            refine lv_if_eq (tgt := 77) hx hb dX3_floor_70 (by decide) (fun c9 => ?_) (fun c9 => ?_)
            · refine lv_aload_n hx hb dX3_floor_77 rfl (lv_at hl 2 rfl) ?_
              refine va_get (D := G) (ci := 3) (v := .int (u 0 0)) (C := RX3) (T := TX3) (N := 24) hx hb hts hiX3 hown hK hP 0 rfl rfl 0 (by decide) (hts (.fieldLink RX3 54 "TreapVersionsModel" "thrown" "I") (by decide +kernel)) (fun _ h9 => h9) rfl dX3_floor_78 ?_
              refine lv_topi (fun z10 ez10 => ?_)
              have hw := nmI.go hw z10 ez10
              refine va_put (D := G) (ci := 3) (v := .int z10) (ty := .int) (C := RX3) (T := TX3) (N := 24) hx hb hts hiX3 tyX3 tyX3_ok nmX3 hown hK hP hD hS 0 rfl rfl 0 (by decide) (hts (.fieldLink RX3 54 "TreapVersionsModel" "thrown" "I") (by decide +kernel)) (fun _ h9 => h9) rfl (by decide +kernel) rfl rfl (Nat.le_of_ble_eq_true rfl) dX3_floor_81 (fun H locs hP hD hS => ?_)
              obtain ⟨u11, eu11⟩ : ∃ z : CS, z = cset u 0 (fun _ => z10) := ⟨_, rfl⟩
              have hP : va_P G vwCl (mw am cI cZ (cset u 0 (fun _ => z10))) H := hP
              have hD : va_D A (mw am cI cZ (cset u 0 (fun _ => z10))) := hD
              rw [← eu11] at hP hD
              have hw := stF.go hw u11 eu11
              refine lv_iload hx hb dX3_floor_84 (lv_at hl 1 rfl) ?_
              refine lv_if_eq (tgt := 99) hx hb dX3_floor_86 (by decide) (fun c12 => ?_) (fun c12 => ?_)
              · refine lv_aload_n hx hb dX3_floor_99 rfl (lv_at hl 2 rfl) ?_
                refine va_get (D := G) (ci := 3) (v := .ref (am 4)) (C := RX3) (T := TX3) (N := 24) hx hb hts hiX3 hown hK hP 0 rfl rfl 9 (by decide) (hts (.fieldLink RX3 19 "TreapVersionsModel" "left" "[I") (by decide +kernel)) (fun _ h9 => h9) rfl dX3_floor_100 ?_
                refine lv_iload hx hb dX3_floor_103 (lv_at hl 4 rfl) ?_
                refine va_iald hx hb hK hP 4 0 rfl rfl (rdA.hin hw) dX3_floor_105 ?_
                refine lv_topi (fun z13 ez13 => ?_)
                have hw := rdA.go hw z13 ez13
                refine lv_istore (lv' := [(4, .int z13), (3, .int a3), (5, .int 0), (0, .ref (am 0)), (2, .int a2)]) hx hb dX3_floor_106 hl (by decide) rfl (fun ls hl => ?_)
                refine lv_goto (tgt := 27) hx hb dX3_floor_108 (by decide) ?_
                exact ih a2 a3 z13 u11 hw _ _ hP hD hS _ (lv_sub hl [3, 4, 1, 0] rfl)
              · exact absurd (by decide) c12
            · exact absurd (by decide) c9
          · exact absurd (by decide) c8
        · have hw := brN.f hw c7
          refine lv_iconst (v := 1) hx hb dX3_floor_43 (by decide) ?_
          refine lv_goto (tgt := 48) hx hb dX3_floor_44 (by decide) ?_
          refine lv_istore (lv' := [(5, .int 1), (0, .ref (am 0)), (2, .int a2), (3, .int a3), (4, .int a4)]) hx hb dX3_floor_48 hl (by decide) rfl (fun ls hl => ?_)
          refine lv_iload hx hb dX3_floor_50 (lv_at hl 0 rfl) ?_
          refine lv_if_eq (tgt := 65) hx hb dX3_floor_52 (by decide) (fun c14 => ?_) (fun c14 => ?_)
          · exact absurd c14 (by decide)
          · refine lv_aload_n hx hb dX3_floor_55 rfl (lv_at hl 1 rfl) ?_
            refine va_get (D := G) (ci := 3) (v := .ref (am 1)) (C := RX3) (T := TX3) (N := 24) hx hb hts hiX3 hown hK hP 0 rfl rfl 6 (by decide) (hts (.fieldLink RX3 7 "TreapVersionsModel" "key" "[I") (by decide +kernel)) (fun _ h9 => h9) rfl dX3_floor_56 ?_
            refine lv_iload hx hb dX3_floor_59 (lv_at hl 4 rfl) ?_
            refine va_iald hx hb hK hP 1 0 rfl rfl (rdA.hin hw) dX3_floor_61 ?_
            refine lv_topi (fun z15 ez15 => ?_)
            have hw := rdA.go hw z15 ez15
            refine lv_goto (tgt := 66) hx hb dX3_floor_62 (by decide) ?_
            refine lv_istore_n (lv' := [(3, .int z15), (5, .int 1), (0, .ref (am 0)), (2, .int a2), (4, .int a4)]) hx hb dX3_floor_66 rfl hl (by decide) rfl (fun ls hl => ?_)
            refine lv_aload_n hx hb dX3_floor_67 rfl (lv_at hl 2 rfl) ?_
            refine lv_iload hx hb dX3_floor_68 (lv_at hl 1 rfl) ?_
            refine lv_if_eq (tgt := 77) hx hb dX3_floor_70 (by decide) (fun c16 => ?_) (fun c16 => ?_)
            · exact absurd c16 (by decide)
            · refine lv_iconst (v := 0) hx hb dX3_floor_73 (by decide) ?_
              refine lv_goto (tgt := 81) hx hb dX3_floor_74 (by decide) ?_
              refine va_put (D := G) (ci := 3) (v := .int 0) (ty := .int) (C := RX3) (T := TX3) (N := 24) hx hb hts hiX3 tyX3 tyX3_ok nmX3 hown hK hP hD hS 0 rfl rfl 0 (by decide) (hts (.fieldLink RX3 54 "TreapVersionsModel" "thrown" "I") (by decide +kernel)) (fun _ h9 => h9) rfl (by decide +kernel) rfl rfl (Nat.le_of_ble_eq_true rfl) dX3_floor_81 (fun H locs hP hD hS => ?_)
              obtain ⟨u17, eu17⟩ : ∃ z : CS, z = cset u 0 (fun _ => 0) := ⟨_, rfl⟩
              have hP : va_P G vwCl (mw am cI cZ (cset u 0 (fun _ => 0))) H := hP
              have hD : va_D A (mw am cI cZ (cset u 0 (fun _ => 0))) := hD
              rw [← eu17] at hP hD
              have hw := stF.go hw u17 eu17
              refine lv_iload hx hb dX3_floor_84 (lv_at hl 1 rfl) ?_
              refine lv_if_eq (tgt := 99) hx hb dX3_floor_86 (by decide) (fun c18 => ?_) (fun c18 => ?_)
              · exact absurd c18 (by decide)
              · refine lv_aload_n hx hb dX3_floor_89 rfl (lv_at hl 2 rfl) ?_
                refine va_get (D := G) (ci := 3) (v := .ref (am 5)) (C := RX3) (T := TX3) (N := 24) hx hb hts hiX3 hown hK hP 0 rfl rfl 10 (by decide) (hts (.fieldLink RX3 22 "TreapVersionsModel" "right" "[I") (by decide +kernel)) (fun _ h9 => h9) rfl dX3_floor_90 ?_
                refine lv_iload hx hb dX3_floor_93 (lv_at hl 4 rfl) ?_
                refine va_iald hx hb hK hP 5 0 rfl rfl (rdA.hin hw) dX3_floor_95 ?_
                refine lv_topi (fun z19 ez19 => ?_)
                have hw := rdA.go hw z19 ez19
                refine lv_goto (tgt := 106) hx hb dX3_floor_96 (by decide) ?_
                refine lv_istore (lv' := [(4, .int z19), (3, .int z15), (5, .int 1), (0, .ref (am 0)), (2, .int a2)]) hx hb dX3_floor_106 hl (by decide) rfl (fun ls hl => ?_)
                refine lv_goto (tgt := 27) hx hb dX3_floor_108 (by decide) ?_
                exact ih a2 z15 z19 u17 hw _ _ hP hD hS _ (lv_sub hl [3, 4, 1, 0] rfl)
  unfold wp_X3_floor at hw
  refine lv_aload_n hx hb dX3_floor_0 rfl (lv_at hl 0 rfl) ?_
  refine lv_iconst (v := 1) hx hb dX3_floor_1 (by decide) ?_
  refine va_put (D := G) (ci := 3) (v := .int 1) (ty := .int) (C := RX3) (T := TX3) (N := 24) hx hb hts hiX3 tyX3 tyX3_ok nmX3 hown hK hP hD hS 0 rfl rfl 0 (by decide) (hts (.fieldLink RX3 54 "TreapVersionsModel" "thrown" "I") (by decide +kernel)) (fun _ h9 => h9) rfl (by decide +kernel) rfl rfl (Nat.le_of_ble_eq_true rfl) dX3_floor_2 (fun H locs hP hD hS => ?_)
  obtain ⟨u1, eu1⟩ : ∃ z : CS, z = cset u 0 (fun _ => 1) := ⟨_, rfl⟩
  have hP : va_P G vwCl (mw am cI cZ (cset u 0 (fun _ => 1))) H := hP
  have hD : va_D A (mw am cI cZ (cset u 0 (fun _ => 1))) := hD
  rw [← eu1] at hP hD
  have hw := stF.go hw u1 eu1
  refine lv_iconst (v := 0) hx hb dX3_floor_5 (by decide) ?_
  refine lv_istore_n (lv' := [(3, .int 0), (0, .ref (am 0)), (1, .int p0), (2, .int p1)]) hx hb dX3_floor_6 rfl hl (by decide) rfl (fun ls hl => ?_)
  refine lv_aload_n hx hb dX3_floor_7 rfl (lv_at hl 1 rfl) ?_
  refine lv_iload_n hx hb dX3_floor_8 rfl (lv_at hl 2 rfl) ?_
  refine CtI.call (As := [.int p0]) (rest := []) (c_X3_has l G am cI cZ p0 u1 _ hw) ⟨hx, hb, hml, hown, hts⟩ (cwV 1 hts gX3_floor_X3_has rfl rfl rfl (by decide +kernel) ⟨Nat.le_of_ble_eq_true rfl, Nat.le_of_ble_eq_true rfl⟩) (va_recv hK hP (ci := 3) (q0 := 0) rfl rfl) hK hP hD hS hA rfl hl.1 rfl (Nat.le_of_ble_eq_true rfl) dX3_floor_9 ⟨Nat.zero_le _, Nat.zero_le _⟩ (fun r3 u2 H locs hw hP hD hS => ?_)
  obtain ⟨hz, hw⟩ := hw
  refine lv_if_eq (tgt := 24) hx hb dX3_floor_12 (by decide) (fun c4 => ?_) (fun c4 => ?_)
  · have hw := brN.t hw c4
    refine lv_iconst (v := (-1)) hx hb dX3_floor_24 (by decide) ?_
    refine lv_istore (lv' := [(4, .int (-1)), (3, .int 0), (0, .ref (am 0)), (1, .int p0), (2, .int p1)]) hx hb dX3_floor_25 hl (by decide) rfl (fun ls hl => ?_)
    obtain ⟨n9, hw⟩ := hw
    exact hlp27 n9 p1 0 (-1) u2 hw _ _ hP hD hS _ (lv_sub hl [2, 4, 1, 0] rfl)
  · have hw := brN.f hw c4
    refine lv_aload_n hx hb dX3_floor_15 rfl (lv_at hl 1 rfl) ?_
    refine va_get (D := G) (ci := 3) (v := .ref (am 10)) (C := RX3) (T := TX3) (N := 24) hx hb hts hiX3 hown hK hP 0 rfl rfl 16 (by decide) (hts (.fieldLink RX3 38 "TreapVersionsModel" "root" "[I") (by decide +kernel)) (fun _ h9 => h9) rfl dX3_floor_16 ?_
    refine lv_iload_n hx hb dX3_floor_19 rfl (lv_at hl 2 rfl) ?_
    refine va_iald hx hb hK hP 10 0 rfl rfl (rdA.hin hw) dX3_floor_20 ?_
    refine lv_topi (fun z20 ez20 => ?_)
    have hw := rdA.go hw z20 ez20
    refine lv_goto (tgt := 25) hx hb dX3_floor_21 (by decide) ?_
    refine lv_istore (lv' := [(4, .int z20), (3, .int 0), (0, .ref (am 0)), (1, .int p0), (2, .int p1)]) hx hb dX3_floor_25 hl (by decide) rfl (fun ls hl => ?_)
    obtain ⟨n9, hw⟩ := hw
    exact hlp27 n9 p1 0 z20 u2 hw _ _ hP hD hS _ (lv_sub hl [2, 4, 1, 0] rfl)
set_option maxHeartbeats 4000000 in
set_option maxRecDepth 100000 in
theorem c_X3_rank (l : Launch) (G : va_G) (am : Nat → Nat) (cI cZ : ClassId) (p0 : Int32) (u : CS) (post : Int32 → CS → Prop) (hw : wp_X3_rank p0 u post) : CtI l yX3_rank wsX3_rank ({ frames := 0, cells := 0, slots := 0, locals := 0 }) G (ty2 cI cZ) (mw am cI cZ) [.ref (am 0), .int p0] u post := by
  refine CtI.of (cc := cX3_rank) (maxL := 4) (rt := .int) (by decide) rfl (Nat.le_of_ble_eq_true rfl) ?_
  intro p e s m below meth c A Q hx hb hml hts hown hK hA hret ls hl hP hD hS
  have hiX3 : ∀ w ∈ u_ws RX3 TX3 24, w ∈ wsX3_rank := by decide +kernel
  have hown : s.vm.findClass RX3 = some m.cls := hown
  have hl : lv_has ls 4 [(0, .ref (am 0)), (1, .int p0)] := hl
  have hlp4 : ∀ (n : Nat) (a1 : Int32) (a2 : Int32) (a3 : Int32) (u : CS), lp_X3_rank_4 post n a1 a2 a3 u → ∀ (H : Heap) (locs : List Loc), va_P G vwCl (mw am cI cZ u) H → va_D A (mw am cI cZ u) → va_S A s.heap H locs → ∀ ls : Array Slot, lv_has ls 4 [(0, .ref (am 0)), (1, .int a1), (2, .int a2), (3, .int a3)] → W p l e ({ frames := 0, cells := 0, slots := 0, locals := 0 }) s m ([.ref (am 0), .int p0] : List Value).toArray below meth c H locs 0 0 Q (F0 m 4 ls []) := by
    clear hw hl hP hD hS
    intro n
    induction n with
    | zero => intro a1 a2 a3 u hw; exact False.elim hw
    | succ n ih =>
      intro a1 a2 a3 u hw H locs hP hD hS ls hl
      unfold lp_X3_rank_4 at hw
      refine lv_iload_n hx hb dX3_rank_4 rfl (lv_at hl 3 rfl) ?_
      refine lv_sipush (v := 160) hx hb dX3_rank_5 (by decide) ?_
      refine lv_icmp_ge (tgt := 44) hx hb dX3_rank_8 (by decide) (fun c1 => ?_) (fun c1 => ?_)
      · have hw := brN.t hw c1
        refine lv_iload_n hx hb dX3_rank_44 rfl (lv_at hl 2 rfl) ?_
        exact hret a2 u 45 _ _ _ dX3_rank_45 rfl hw hP hD hS
      · have hw := brN.f hw c1
        refine lv_aload_n hx hb dX3_rank_11 rfl (lv_at hl 0 rfl) ?_
        refine va_get (D := G) (ci := 3) (v := .ref (am 7)) (C := RX3) (T := TX3) (N := 24) hx hb hts hiX3 hown hK hP 0 rfl rfl 12 (by decide) (hts (.fieldLink RX3 29 "TreapVersionsModel" "other" "[Z") (by decide +kernel)) (fun _ h9 => h9) rfl dX3_rank_12 ?_
        refine lv_iload_n hx hb dX3_rank_15 rfl (lv_at hl 3 rfl) ?_
        refine va_zald hx hb hK hP 7 1 rfl rfl (rdA.hin hw) dX3_rank_16 ?_
        refine lv_topi (fun z2 ez2 => ?_)
        have hw := rdA.go hw z2 ez2
        refine lv_if_eq (tgt := 36) hx hb dX3_rank_17 (by decide) (fun c3 => ?_) (fun c3 => ?_)
        · have hw := brN.t hw c3
          refine lv_iload_n hx hb dX3_rank_36 rfl (lv_at hl 2 rfl) ?_
          refine lv_istore_n (lv' := [(2, .int a2), (0, .ref (am 0)), (1, .int a1), (3, .int a3)]) hx hb dX3_rank_37 rfl hl (by decide) rfl (fun ls hl => ?_)
          obtain ⟨z4, ez4⟩ : ∃ y : Int32, y = a3 + 1 := ⟨_, rfl⟩
          have hw := nmI.go hw z4 ez4
          refine lv_iinc (v := z4) (lv' := [(3, .int z4), (2, .int a2), (0, .ref (am 0)), (1, .int a1)]) hx hb dX3_rank_38 hl (k := 3) rfl (by rw [ez4]; rfl) (by decide) rfl (fun ls hl => ?_)
          refine lv_goto (tgt := 4) hx hb dX3_rank_41 (by decide) ?_
          exact ih a1 a2 z4 u hw _ _ hP hD hS _ (lv_sub hl [2, 3, 1, 0] rfl)
        · have hw := brN.f hw c3
          refine lv_aload_n hx hb dX3_rank_20 rfl (lv_at hl 0 rfl) ?_
          refine va_get (D := G) (ci := 3) (v := .ref (am 1)) (C := RX3) (T := TX3) (N := 24) hx hb hts hiX3 hown hK hP 0 rfl rfl 6 (by decide) (hts (.fieldLink RX3 7 "TreapVersionsModel" "key" "[I") (by decide +kernel)) (fun _ h9 => h9) rfl dX3_rank_21 ?_
          refine lv_iload_n hx hb dX3_rank_24 rfl (lv_at hl 3 rfl) ?_
          refine va_iald hx hb hK hP 1 0 rfl rfl (rdA.hin hw) dX3_rank_25 ?_
          refine lv_topi (fun z5 ez5 => ?_)
          have hw := rdA.go hw z5 ez5
          refine lv_iload_n hx hb dX3_rank_26 rfl (lv_at hl 1 rfl) ?_
          refine lv_icmp_ge (tgt := 36) hx hb dX3_rank_27 (by decide) (fun c6 => ?_) (fun c6 => ?_)
          · have hw := brN.t hw c6
            refine lv_iload_n hx hb dX3_rank_36 rfl (lv_at hl 2 rfl) ?_
            refine lv_istore_n (lv' := [(2, .int a2), (0, .ref (am 0)), (1, .int a1), (3, .int a3)]) hx hb dX3_rank_37 rfl hl (by decide) rfl (fun ls hl => ?_)
            obtain ⟨z7, ez7⟩ : ∃ y : Int32, y = a3 + 1 := ⟨_, rfl⟩
            have hw := nmI.go hw z7 ez7
            refine lv_iinc (v := z7) (lv' := [(3, .int z7), (2, .int a2), (0, .ref (am 0)), (1, .int a1)]) hx hb dX3_rank_38 hl (k := 3) rfl (by rw [ez7]; rfl) (by decide) rfl (fun ls hl => ?_)
            refine lv_goto (tgt := 4) hx hb dX3_rank_41 (by decide) ?_
            exact ih a1 a2 z7 u hw _ _ hP hD hS _ (lv_sub hl [2, 3, 1, 0] rfl)
          · have hw := brN.f hw c6
            refine lv_iload_n hx hb dX3_rank_30 rfl (lv_at hl 2 rfl) ?_
            refine lv_iconst (v := 1) hx hb dX3_rank_31 (by decide) ?_
            refine lv_iadd hx hb dX3_rank_32 ?_
            refine lv_topi (fun z8 ez8 => ?_)
            have hw := nmI.go hw z8 ez8
            refine lv_goto (tgt := 37) hx hb dX3_rank_33 (by decide) ?_
            refine lv_istore_n (lv' := [(2, .int z8), (0, .ref (am 0)), (1, .int a1), (3, .int a3)]) hx hb dX3_rank_37 rfl hl (by decide) rfl (fun ls hl => ?_)
            obtain ⟨z9, ez9⟩ : ∃ y : Int32, y = a3 + 1 := ⟨_, rfl⟩
            have hw := nmI.go hw z9 ez9
            refine lv_iinc (v := z9) (lv' := [(3, .int z9), (2, .int z8), (0, .ref (am 0)), (1, .int a1)]) hx hb dX3_rank_38 hl (k := 3) rfl (by rw [ez9]; rfl) (by decide) rfl (fun ls hl => ?_)
            refine lv_goto (tgt := 4) hx hb dX3_rank_41 (by decide) ?_
            exact ih a1 z8 z9 u hw _ _ hP hD hS _ (lv_sub hl [2, 3, 1, 0] rfl)
  unfold wp_X3_rank at hw
  refine lv_iconst (v := 0) hx hb dX3_rank_0 (by decide) ?_
  refine lv_istore_n (lv' := [(2, .int 0), (0, .ref (am 0)), (1, .int p0)]) hx hb dX3_rank_1 rfl hl (by decide) rfl (fun ls hl => ?_)
  refine lv_iconst (v := 0) hx hb dX3_rank_2 (by decide) ?_
  refine lv_istore_n (lv' := [(3, .int 0), (2, .int 0), (0, .ref (am 0)), (1, .int p0)]) hx hb dX3_rank_3 rfl hl (by decide) rfl (fun ls hl => ?_)
  obtain ⟨n9, hw⟩ := hw
  exact hlp4 n9 p0 0 0 u hw _ _ hP hD hS _ (lv_sub hl [2, 3, 1, 0] rfl)
set_option maxHeartbeats 4000000 in
set_option maxRecDepth 100000 in
theorem c_X3_keyAt (l : Launch) (G : va_G) (am : Nat → Nat) (cI cZ : ClassId) (p0 : Int32) (p1 : Int32) (u : CS) (post : Int32 → CS → Prop) (hw : wp_X3_keyAt p0 p1 u post) : CtI l yX3_keyAt wsX3_keyAt ({ frames := 1, cells := 0, slots := 0, locals := 24 }) G (ty2 cI cZ) (mw am cI cZ) [.ref (am 0), .int p0, .int p1] u post := by
  refine CtI.of (cc := cX3_keyAt) (maxL := 4) (rt := .int) (by decide) rfl (Nat.le_of_ble_eq_true rfl) ?_
  intro p e s m below meth c A Q hx hb hml hts hown hK hA hret ls hl hP hD hS
  have hiX3 : ∀ w ∈ u_ws RX3 TX3 24, w ∈ wsX3_keyAt := by decide +kernel
  have hown : s.vm.findClass RX3 = some m.cls := hown
  have hl : lv_has ls 4 [(0, .ref (am 0)), (1, .int p0), (2, .int p1)] := hl
  have hlp40 : ∀ (n : Nat) (a2 : Int32) (a3 : Int32) (u : CS), lp_X3_keyAt_40 post n a2 a3 u → ∀ (H : Heap) (locs : List Loc), va_P G vwCl (mw am cI cZ u) H → va_D A (mw am cI cZ u) → va_S A s.heap H locs → ∀ ls : Array Slot, lv_has ls 4 [(0, .ref (am 0)), (2, .int a2), (3, .int a3)] → W p l e ({ frames := 1, cells := 0, slots := 0, locals := 24 }) s m ([.ref (am 0), .int p0, .int p1] : List Value).toArray below meth c H locs 0 0 Q (F0 m 40 ls []) := by
    clear hw hl hP hD hS
    intro n
    induction n with
    | zero => intro a2 a3 u hw; exact False.elim hw
    | succ n ih =>
      intro a2 a3 u hw H locs hP hD hS ls hl
      unfold lp_X3_keyAt_40 at hw
      refine lv_iload_n hx hb dX3_keyAt_40 rfl (lv_at hl 2 rfl) ?_
      refine lv_sipush (v := 160) hx hb dX3_keyAt_41 (by decide) ?_
      refine lv_icmp_ge (tgt := 83) hx hb dX3_keyAt_44 (by decide) (fun c9 => ?_) (fun c9 => ?_)
      · have hw := brN.t hw c9
        refine lv_aload_n hx hb dX3_keyAt_83 rfl (lv_at hl 0 rfl) ?_
        refine lv_iconst (v := 2) hx hb dX3_keyAt_84 (by decide) ?_
        refine CtI.call (As := [.int 2]) (rest := []) (c_X3_fail l G am cI cZ 2 u _ hw) ⟨hx, hb, hml, hown, hts⟩ (cwV 1 hts gX3_keyAt_X3_fail rfl rfl rfl (by decide +kernel) ⟨Nat.le_of_ble_eq_true rfl, Nat.le_of_ble_eq_true rfl⟩) (va_recv hK hP (ci := 3) (q0 := 0) rfl rfl) hK hP hD hS hA rfl hl.1 rfl (Nat.le_of_ble_eq_true rfl) dX3_keyAt_85 ⟨Nat.zero_le _, Nat.zero_le _⟩ (fun r11 u10 H locs hw hP hD hS => ?_)
        exact hret r11 u10 88 _ _ _ dX3_keyAt_88 rfl hw hP hD hS
      · have hw := brN.f hw c9
        refine lv_aload_n hx hb dX3_keyAt_47 rfl (lv_at hl 0 rfl) ?_
        refine va_get (D := G) (ci := 3) (v := .ref (am 7)) (C := RX3) (T := TX3) (N := 24) hx hb hts hiX3 hown hK hP 0 rfl rfl 12 (by decide) (hts (.fieldLink RX3 29 "TreapVersionsModel" "other" "[Z") (by decide +kernel)) (fun _ h9 => h9) rfl dX3_keyAt_48 ?_
        refine lv_iload_n hx hb dX3_keyAt_51 rfl (lv_at hl 2 rfl) ?_
        refine va_zald hx hb hK hP 7 1 rfl rfl (rdA.hin hw) dX3_keyAt_52 ?_
        refine lv_topi (fun z12 ez12 => ?_)
        have hw := rdA.go hw z12 ez12
        refine lv_if_eq (tgt := 77) hx hb dX3_keyAt_53 (by decide) (fun c13 => ?_) (fun c13 => ?_)
        · have hw := brN.t hw c13
          obtain ⟨z14, ez14⟩ : ∃ y : Int32, y = a3 + 1 := ⟨_, rfl⟩
          have hw := nmI.go hw z14 ez14
          refine lv_iinc (v := z14) (lv' := [(3, .int z14), (0, .ref (am 0)), (2, .int a2)]) hx hb dX3_keyAt_77 hl (k := 2) rfl (by rw [ez14]; rfl) (by decide) rfl (fun ls hl => ?_)
          refine lv_goto (tgt := 40) hx hb dX3_keyAt_80 (by decide) ?_
          exact ih a2 z14 u hw _ _ hP hD hS _ (lv_sub hl [1, 2, 0] rfl)
        · have hw := brN.f hw c13
          refine lv_aload_n hx hb dX3_keyAt_56 rfl (lv_at hl 0 rfl) ?_
          refine lv_aload_n hx hb dX3_keyAt_57 rfl (lv_at hl 0 rfl) ?_
          refine va_get (D := G) (ci := 3) (v := .ref (am 1)) (C := RX3) (T := TX3) (N := 24) hx hb hts hiX3 hown hK hP 0 rfl rfl 6 (by decide) (hts (.fieldLink RX3 7 "TreapVersionsModel" "key" "[I") (by decide +kernel)) (fun _ h9 => h9) rfl dX3_keyAt_58 ?_
          refine lv_iload_n hx hb dX3_keyAt_61 rfl (lv_at hl 2 rfl) ?_
          refine va_iald hx hb hK hP 1 0 rfl rfl (rdA.hin hw) dX3_keyAt_62 ?_
          refine lv_topi (fun z15 ez15 => ?_)
          have hw := rdA.go hw z15 ez15
          refine CtI.call (As := [.int z15]) (rest := []) (c_X3_rank l G am cI cZ z15 u _ hw) ⟨hx, hb, hml, hown, hts⟩ (cwV 1 hts gX3_keyAt_X3_rank rfl rfl rfl (by decide +kernel) ⟨Nat.le_of_ble_eq_true rfl, Nat.le_of_ble_eq_true rfl⟩) (va_recv hK hP (ci := 3) (q0 := 0) rfl rfl) hK hP hD hS hA rfl hl.1 rfl (Nat.le_of_ble_eq_true rfl) dX3_keyAt_63 ⟨Nat.zero_le _, Nat.zero_le _⟩ (fun r17 u16 H locs hw hP hD hS => ?_)
          refine lv_iload_n hx hb dX3_keyAt_66 rfl (lv_at hl 1 rfl) ?_
          refine lv_icmp_ne (tgt := 77) hx hb dX3_keyAt_67 (by decide) (fun c18 => ?_) (fun c18 => ?_)
          · have hw := brN.f hw c18
            obtain ⟨z19, ez19⟩ : ∃ y : Int32, y = a3 + 1 := ⟨_, rfl⟩
            have hw := nmI.go hw z19 ez19
            refine lv_iinc (v := z19) (lv' := [(3, .int z19), (0, .ref (am 0)), (2, .int a2)]) hx hb dX3_keyAt_77 hl (k := 2) rfl (by rw [ez19]; rfl) (by decide) rfl (fun ls hl => ?_)
            refine lv_goto (tgt := 40) hx hb dX3_keyAt_80 (by decide) ?_
            exact ih a2 z19 u16 hw _ _ hP hD hS _ (lv_sub hl [1, 2, 0] rfl)
          · have hw := brN.t hw c18
            refine lv_aload_n hx hb dX3_keyAt_70 rfl (lv_at hl 0 rfl) ?_
            refine va_get (D := G) (ci := 3) (v := .ref (am 1)) (C := RX3) (T := TX3) (N := 24) hx hb hts hiX3 hown hK hP 0 rfl rfl 6 (by decide) (hts (.fieldLink RX3 7 "TreapVersionsModel" "key" "[I") (by decide +kernel)) (fun _ h9 => h9) rfl dX3_keyAt_71 ?_
            refine lv_iload_n hx hb dX3_keyAt_74 rfl (lv_at hl 2 rfl) ?_
            refine va_iald hx hb hK hP 1 0 rfl rfl (rdA.hin hw) dX3_keyAt_75 ?_
            refine lv_topi (fun z20 ez20 => ?_)
            have hw := rdA.go hw z20 ez20
            exact hret z20 u16 76 _ _ _ dX3_keyAt_76 rfl hw hP hD hS
  unfold wp_X3_keyAt at hw
  refine lv_aload_n hx hb dX3_keyAt_0 rfl (lv_at hl 0 rfl) ?_
  refine lv_iconst (v := 0) hx hb dX3_keyAt_1 (by decide) ?_
  refine va_put (D := G) (ci := 3) (v := .int 0) (ty := .int) (C := RX3) (T := TX3) (N := 24) hx hb hts hiX3 tyX3 tyX3_ok nmX3 hown hK hP hD hS 0 rfl rfl 0 (by decide) (hts (.fieldLink RX3 54 "TreapVersionsModel" "thrown" "I") (by decide +kernel)) (fun _ h9 => h9) rfl (by decide +kernel) rfl rfl (Nat.le_of_ble_eq_true rfl) dX3_keyAt_2 (fun H locs hP hD hS => ?_)
  obtain ⟨u1, eu1⟩ : ∃ z : CS, z = cset u 0 (fun _ => 0) := ⟨_, rfl⟩
  have hP : va_P G vwCl (mw am cI cZ (cset u 0 (fun _ => 0))) H := hP
  have hD : va_D A (mw am cI cZ (cset u 0 (fun _ => 0))) := hD
  rw [← eu1] at hP hD
  have hw := stF.go hw u1 eu1
  refine lv_aload_n hx hb dX3_keyAt_5 rfl (lv_at hl 0 rfl) ?_
  refine lv_iload_n hx hb dX3_keyAt_6 rfl (lv_at hl 1 rfl) ?_
  refine CtI.call (As := [.int p0]) (rest := []) (c_X3_has l G am cI cZ p0 u1 _ hw) ⟨hx, hb, hml, hown, hts⟩ (cwV 1 hts gX3_keyAt_X3_has rfl rfl rfl (by decide +kernel) ⟨Nat.le_of_ble_eq_true rfl, Nat.le_of_ble_eq_true rfl⟩) (va_recv hK hP (ci := 3) (q0 := 0) rfl rfl) hK hP hD hS hA rfl hl.1 rfl (Nat.le_of_ble_eq_true rfl) dX3_keyAt_7 ⟨Nat.zero_le _, Nat.zero_le _⟩ (fun r3 u2 H locs hw hP hD hS => ?_)
  obtain ⟨hz, hw⟩ := hw
  refine lv_if_ne (tgt := 19) hx hb dX3_keyAt_10 (by decide) (fun c4 => ?_) (fun c4 => ?_)
  · have hw := brN.f hw c4
    refine lv_aload_n hx hb dX3_keyAt_19 rfl (lv_at hl 0 rfl) ?_
    refine CtV.call (As := []) (rest := []) (c_X3_clear l G am cI cZ u2 _ hw) ⟨hx, hb, hml, hown, hts⟩ (cwV 0 hts gX3_keyAt_X3_clear rfl rfl rfl (by decide +kernel) ⟨Nat.le_of_ble_eq_true rfl, Nat.le_of_ble_eq_true rfl⟩) (va_recv hK hP (ci := 3) (q0 := 0) rfl rfl) hK hP hD hS hA rfl hl.1 rfl (Nat.le_of_ble_eq_true rfl) dX3_keyAt_20 ⟨Nat.zero_le _, Nat.zero_le _⟩ (fun u5 H locs hw hP hD hS => ?_)
    refine lv_aload_n hx hb dX3_keyAt_23 rfl (lv_at hl 0 rfl) ?_
    refine lv_aload_n hx hb dX3_keyAt_24 rfl (lv_at hl 0 rfl) ?_
    refine va_get (D := G) (ci := 3) (v := .ref (am 10)) (C := RX3) (T := TX3) (N := 24) hx hb hts hiX3 hown hK hP 0 rfl rfl 16 (by decide) (hts (.fieldLink RX3 38 "TreapVersionsModel" "root" "[I") (by decide +kernel)) (fun _ h9 => h9) rfl dX3_keyAt_25 ?_
    refine lv_iload_n hx hb dX3_keyAt_28 rfl (lv_at hl 1 rfl) ?_
    refine va_iald hx hb hK hP 10 0 rfl rfl (rdA.hin hw) dX3_keyAt_29 ?_
    refine lv_topi (fun z6 ez6 => ?_)
    have hw := rdA.go hw z6 ez6
    refine lv_aload_n hx hb dX3_keyAt_30 rfl (lv_at hl 0 rfl) ?_
    refine va_get (D := G) (ci := 3) (v := .ref (am 7)) (C := RX3) (T := TX3) (N := 24) hx hb hts hiX3 hown hK hP 0 rfl rfl 12 (by decide) (hts (.fieldLink RX3 29 "TreapVersionsModel" "other" "[Z") (by decide +kernel)) (fun _ h9 => h9) rfl dX3_keyAt_31 ?_
    refine CtI.call (As := [.int z6, .ref (am 7)]) (rest := []) (c_X3_markO l G am cI cZ z6 u5 _ hw) ⟨hx, hb, hml, hown, hts⟩ (cwV 2 hts gX3_keyAt_X3_mark rfl rfl rfl (by decide +kernel) ⟨Nat.le_of_ble_eq_true rfl, Nat.le_of_ble_eq_true rfl⟩) (va_recv hK hP (ci := 3) (q0 := 0) rfl rfl) hK hP hD hS hA rfl hl.1 rfl (Nat.le_of_ble_eq_true rfl) dX3_keyAt_34 ⟨Nat.zero_le _, Nat.zero_le _⟩ (fun r8 u7 H locs hw hP hD hS => ?_)
    refine lv_pop hx hb dX3_keyAt_37 rfl ?_
    refine lv_iconst (v := 0) hx hb dX3_keyAt_38 (by decide) ?_
    refine lv_istore_n (lv' := [(3, .int 0), (0, .ref (am 0)), (1, .int p0), (2, .int p1)]) hx hb dX3_keyAt_39 rfl hl (by decide) rfl (fun ls hl => ?_)
    obtain ⟨n9, hw⟩ := hw
    exact hlp40 n9 p1 0 u7 hw _ _ hP hD hS _ (lv_sub hl [1, 3, 0] rfl)
  · have hw := brN.t hw c4
    refine lv_aload_n hx hb dX3_keyAt_13 rfl (lv_at hl 0 rfl) ?_
    refine lv_iconst (v := 1) hx hb dX3_keyAt_14 (by decide) ?_
    refine CtI.call (As := [.int 1]) (rest := []) (c_X3_fail l G am cI cZ 1 u2 _ hw) ⟨hx, hb, hml, hown, hts⟩ (cwV 1 hts gX3_keyAt_X3_fail rfl rfl rfl (by decide +kernel) ⟨Nat.le_of_ble_eq_true rfl, Nat.le_of_ble_eq_true rfl⟩) (va_recv hK hP (ci := 3) (q0 := 0) rfl rfl) hK hP hD hS hA rfl hl.1 rfl (Nat.le_of_ble_eq_true rfl) dX3_keyAt_15 ⟨Nat.zero_le _, Nat.zero_le _⟩ (fun r22 u21 H locs hw hP hD hS => ?_)
    exact hret r22 u21 18 _ _ _ dX3_keyAt_18 rfl hw hP hD hS
set_option maxHeartbeats 4000000 in
set_option maxRecDepth 100000 in
theorem c_X3_sum (l : Launch) (G : va_G) (am : Nat → Nat) (cI cZ : ClassId) (p0 : Int32) (p1 : Int32) (p2 : Int32) (u : CS) (post : Int64 → CS → Prop) (hw : wp_X3_sum p0 p1 p2 u post) : CtL l yX3_sum wsX3_sum ({ frames := 1, cells := 0, slots := 0, locals := 24 }) G (ty2 cI cZ) (mw am cI cZ) [.ref (am 0), .int p0, .int p1, .int p2] u post := by
  refine CtL.of (cc := cX3_sum) (maxL := 8) (by decide) rfl (Nat.le_of_ble_eq_true rfl) ?_
  intro p e s m below meth c A Q hx hb hml hts hown hK hA hret ls hl hP hD hS
  have hiX3 : ∀ w ∈ u_ws RX3 TX3 24, w ∈ wsX3_sum := by decide +kernel
  have hown : s.vm.findClass RX3 = some m.cls := hown
  have hl : lv_has ls 8 [(0, .ref (am 0)), (1, .int p0), (2, .int p1), (3, .int p2)] := hl
  have hlp43 : ∀ (n : Nat) (a2 : Int32) (a3 : Int32) (a4 : Int32) (a5 : Int64) (a7 : Int32) (u : CS), lp_X3_sum_43 post n a2 a3 a4 a5 a7 u → ∀ (H : Heap) (locs : List Loc), va_P G vwCl (mw am cI cZ u) H → va_D A (mw am cI cZ u) → va_S A s.heap H locs → ∀ ls : Array Slot, lv_has ls 8 [(0, .ref (am 0)), (2, .int a2), (3, .int a3), (4, .int a4), (5, .long a5), (7, .int a7)] → W p l e ({ frames := 1, cells := 0, slots := 0, locals := 24 }) s m ([.ref (am 0), .int p0, .int p1, .int p2] : List Value).toArray below meth c H locs 0 0 Q (F0 m 43 ls []) := by
    clear hw hl hP hD hS
    intro n
    induction n with
    | zero => intro a2 a3 a4 a5 a7 u hw; exact False.elim hw
    | succ n ih =>
      intro a2 a3 a4 a5 a7 u hw H locs hP hD hS ls hl
      unfold lp_X3_sum_43 at hw
      refine lv_iload hx hb dX3_sum_43 (lv_at hl 5 rfl) ?_
      refine lv_sipush (v := 160) hx hb dX3_sum_45 (by decide) ?_
      refine lv_icmp_ge (tgt := 112) hx hb dX3_sum_48 (by decide) (fun c6 => ?_) (fun c6 => ?_)
      · have hw := brN.t hw c6
        refine lv_lload hx hb dX3_sum_112 (lv_at hl 4 rfl) ?_
        exact hret a5 u 114 _ _ _ dX3_sum_114 hw hP hD hS
      · have hw := brN.f hw c6
        refine lv_iload hx hb dX3_sum_51 (lv_at hl 3 rfl) ?_
        refine lv_if_le (tgt := 112) hx hb dX3_sum_53 (by decide) (fun c7 => ?_) (fun c7 => ?_)
        · have hw := brN.t hw c7
          refine lv_lload hx hb dX3_sum_112 (lv_at hl 4 rfl) ?_
          exact hret a5 u 114 _ _ _ dX3_sum_114 hw hP hD hS
        · have hw := brN.f hw c7
          refine lv_aload_n hx hb dX3_sum_56 rfl (lv_at hl 0 rfl) ?_
          refine va_get (D := G) (ci := 3) (v := .ref (am 7)) (C := RX3) (T := TX3) (N := 24) hx hb hts hiX3 hown hK hP 0 rfl rfl 12 (by decide) (hts (.fieldLink RX3 29 "TreapVersionsModel" "other" "[Z") (by decide +kernel)) (fun _ h9 => h9) rfl dX3_sum_57 ?_
          refine lv_iload hx hb dX3_sum_60 (lv_at hl 5 rfl) ?_
          refine va_zald hx hb hK hP 7 1 rfl rfl (rdA.hin hw) dX3_sum_62 ?_
          refine lv_topi (fun z8 ez8 => ?_)
          have hw := rdA.go hw z8 ez8
          refine lv_if_eq (tgt := 102) hx hb dX3_sum_63 (by decide) (fun c9 => ?_) (fun c9 => ?_)
          · have hw := brN.t hw c9
            refine lv_lload hx hb dX3_sum_102 (lv_at hl 4 rfl) ?_
            refine lv_lstore (lv' := [(5, .long a5), (0, .ref (am 0)), (2, .int a2), (3, .int a3), (4, .int a4), (7, .int a7)]) hx hb dX3_sum_104 hl (by decide) rfl (fun ls hl => ?_)
            obtain ⟨z10, ez10⟩ : ∃ y : Int32, y = a7 + 1 := ⟨_, rfl⟩
            have hw := nmI.go hw z10 ez10
            refine lv_iinc (v := z10) (lv' := [(7, .int z10), (5, .long a5), (0, .ref (am 0)), (2, .int a2), (3, .int a3), (4, .int a4)]) hx hb dX3_sum_106 hl (k := 5) rfl (by rw [ez10]; rfl) (by decide) rfl (fun ls hl => ?_)
            refine lv_goto (tgt := 43) hx hb dX3_sum_109 (by decide) ?_
            exact ih a2 a3 a4 a5 z10 u hw _ _ hP hD hS _ (lv_sub hl [2, 3, 4, 5, 1, 0] rfl)
          · have hw := brN.f hw c9
            refine lv_aload_n hx hb dX3_sum_66 rfl (lv_at hl 0 rfl) ?_
            refine va_get (D := G) (ci := 3) (v := .ref (am 1)) (C := RX3) (T := TX3) (N := 24) hx hb hts hiX3 hown hK hP 0 rfl rfl 6 (by decide) (hts (.fieldLink RX3 7 "TreapVersionsModel" "key" "[I") (by decide +kernel)) (fun _ h9 => h9) rfl dX3_sum_67 ?_
            refine lv_iload hx hb dX3_sum_70 (lv_at hl 5 rfl) ?_
            refine va_iald hx hb hK hP 1 0 rfl rfl (rdA.hin hw) dX3_sum_72 ?_
            refine lv_topi (fun z11 ez11 => ?_)
            have hw := rdA.go hw z11 ez11
            refine lv_iload_n hx hb dX3_sum_73 rfl (lv_at hl 1 rfl) ?_
            refine lv_icmp_lt (tgt := 102) hx hb dX3_sum_74 (by decide) (fun c12 => ?_) (fun c12 => ?_)
            · have hw := brN.t hw c12
              refine lv_lload hx hb dX3_sum_102 (lv_at hl 4 rfl) ?_
              refine lv_lstore (lv' := [(5, .long a5), (0, .ref (am 0)), (2, .int a2), (3, .int a3), (4, .int a4), (7, .int a7)]) hx hb dX3_sum_104 hl (by decide) rfl (fun ls hl => ?_)
              obtain ⟨z13, ez13⟩ : ∃ y : Int32, y = a7 + 1 := ⟨_, rfl⟩
              have hw := nmI.go hw z13 ez13
              refine lv_iinc (v := z13) (lv' := [(7, .int z13), (5, .long a5), (0, .ref (am 0)), (2, .int a2), (3, .int a3), (4, .int a4)]) hx hb dX3_sum_106 hl (k := 5) rfl (by rw [ez13]; rfl) (by decide) rfl (fun ls hl => ?_)
              refine lv_goto (tgt := 43) hx hb dX3_sum_109 (by decide) ?_
              exact ih a2 a3 a4 a5 z13 u hw _ _ hP hD hS _ (lv_sub hl [2, 3, 4, 5, 1, 0] rfl)
            · have hw := brN.f hw c12
              refine lv_aload_n hx hb dX3_sum_77 rfl (lv_at hl 0 rfl) ?_
              refine va_get (D := G) (ci := 3) (v := .ref (am 1)) (C := RX3) (T := TX3) (N := 24) hx hb hts hiX3 hown hK hP 0 rfl rfl 6 (by decide) (hts (.fieldLink RX3 7 "TreapVersionsModel" "key" "[I") (by decide +kernel)) (fun _ h9 => h9) rfl dX3_sum_78 ?_
              refine lv_iload hx hb dX3_sum_81 (lv_at hl 5 rfl) ?_
              refine va_iald hx hb hK hP 1 0 rfl rfl (rdA.hin hw) dX3_sum_83 ?_
              refine lv_topi (fun z14 ez14 => ?_)
              have hw := rdA.go hw z14 ez14
              refine lv_iload_n hx hb dX3_sum_84 rfl (lv_at hl 2 rfl) ?_
              refine lv_icmp_gt (tgt := 102) hx hb dX3_sum_85 (by decide) (fun c15 => ?_) (fun c15 => ?_)
              · have hw := brN.t hw c15
                refine lv_lload hx hb dX3_sum_102 (lv_at hl 4 rfl) ?_
                refine lv_lstore (lv' := [(5, .long a5), (0, .ref (am 0)), (2, .int a2), (3, .int a3), (4, .int a4), (7, .int a7)]) hx hb dX3_sum_104 hl (by decide) rfl (fun ls hl => ?_)
                obtain ⟨z16, ez16⟩ : ∃ y : Int32, y = a7 + 1 := ⟨_, rfl⟩
                have hw := nmI.go hw z16 ez16
                refine lv_iinc (v := z16) (lv' := [(7, .int z16), (5, .long a5), (0, .ref (am 0)), (2, .int a2), (3, .int a3), (4, .int a4)]) hx hb dX3_sum_106 hl (k := 5) rfl (by rw [ez16]; rfl) (by decide) rfl (fun ls hl => ?_)
                refine lv_goto (tgt := 43) hx hb dX3_sum_109 (by decide) ?_
                exact ih a2 a3 a4 a5 z16 u hw _ _ hP hD hS _ (lv_sub hl [2, 3, 4, 5, 1, 0] rfl)
              · have hw := brN.f hw c15
                refine lv_lload hx hb dX3_sum_88 (lv_at hl 4 rfl) ?_
                refine lv_aload_n hx hb dX3_sum_90 rfl (lv_at hl 0 rfl) ?_
                refine va_get (D := G) (ci := 3) (v := .ref (am 2)) (C := RX3) (T := TX3) (N := 24) hx hb hts hiX3 hown hK hP 0 rfl rfl 7 (by decide) (hts (.fieldLink RX3 13 "TreapVersionsModel" "value" "[I") (by decide +kernel)) (fun _ h9 => h9) rfl dX3_sum_91 ?_
                refine lv_iload hx hb dX3_sum_94 (lv_at hl 5 rfl) ?_
                refine va_iald hx hb hK hP 2 0 rfl rfl (rdA.hin hw) dX3_sum_96 ?_
                refine lv_topi (fun z17 ez17 => ?_)
                have hw := rdA.go hw z17 ez17
                refine lv_i2l hx hb dX3_sum_97 rfl ?_
                refine lv_topl (fun z18 ez18 => ?_)
                have hw := nmL.go hw z18 ez18
                refine lv_ladd hx hb dX3_sum_98 ?_
                refine lv_topl (fun z19 ez19 => ?_)
                have hw := nmL.go hw z19 ez19
                refine lv_goto (tgt := 104) hx hb dX3_sum_99 (by decide) ?_
                refine lv_lstore (lv' := [(5, .long z19), (0, .ref (am 0)), (2, .int a2), (3, .int a3), (4, .int a4), (7, .int a7)]) hx hb dX3_sum_104 hl (by decide) rfl (fun ls hl => ?_)
                obtain ⟨z20, ez20⟩ : ∃ y : Int32, y = a7 + 1 := ⟨_, rfl⟩
                have hw := nmI.go hw z20 ez20
                refine lv_iinc (v := z20) (lv' := [(7, .int z20), (5, .long z19), (0, .ref (am 0)), (2, .int a2), (3, .int a3), (4, .int a4)]) hx hb dX3_sum_106 hl (k := 5) rfl (by rw [ez20]; rfl) (by decide) rfl (fun ls hl => ?_)
                refine lv_goto (tgt := 43) hx hb dX3_sum_109 (by decide) ?_
                exact ih a2 a3 a4 z19 z20 u hw _ _ hP hD hS _ (lv_sub hl [2, 3, 4, 5, 1, 0] rfl)
  unfold wp_X3_sum at hw
  refine lv_aload_n hx hb dX3_sum_0 rfl (lv_at hl 0 rfl) ?_
  refine lv_iconst (v := 0) hx hb dX3_sum_1 (by decide) ?_
  refine va_put (D := G) (ci := 3) (v := .int 0) (ty := .int) (C := RX3) (T := TX3) (N := 24) hx hb hts hiX3 tyX3 tyX3_ok nmX3 hown hK hP hD hS 0 rfl rfl 0 (by decide) (hts (.fieldLink RX3 54 "TreapVersionsModel" "thrown" "I") (by decide +kernel)) (fun _ h9 => h9) rfl (by decide +kernel) rfl rfl (Nat.le_of_ble_eq_true rfl) dX3_sum_2 (fun H locs hP hD hS => ?_)
  obtain ⟨u1, eu1⟩ : ∃ z : CS, z = cset u 0 (fun _ => 0) := ⟨_, rfl⟩
  have hP : va_P G vwCl (mw am cI cZ (cset u 0 (fun _ => 0))) H := hP
  have hD : va_D A (mw am cI cZ (cset u 0 (fun _ => 0))) := hD
  rw [← eu1] at hP hD
  have hw := stF.go hw u1 eu1
  refine lv_aload_n hx hb dX3_sum_5 rfl (lv_at hl 0 rfl) ?_
  refine CtV.call (As := []) (rest := []) (c_X3_clear l G am cI cZ u1 _ hw) ⟨hx, hb, hml, hown, hts⟩ (cwV 0 hts gX3_sum_X3_clear rfl rfl rfl (by decide +kernel) ⟨Nat.le_of_ble_eq_true rfl, Nat.le_of_ble_eq_true rfl⟩) (va_recv hK hP (ci := 3) (q0 := 0) rfl rfl) hK hP hD hS hA rfl hl.1 rfl (Nat.le_of_ble_eq_true rfl) dX3_sum_6 ⟨Nat.zero_le _, Nat.zero_le _⟩ (fun u2 H locs hw hP hD hS => ?_)
  refine lv_aload_n hx hb dX3_sum_9 rfl (lv_at hl 0 rfl) ?_
  refine lv_iload_n hx hb dX3_sum_10 rfl (lv_at hl 1 rfl) ?_
  refine CtI.call (As := [.int p0]) (rest := []) (c_X3_has l G am cI cZ p0 u2 _ hw) ⟨hx, hb, hml, hown, hts⟩ (cwV 1 hts gX3_sum_X3_has rfl rfl rfl (by decide +kernel) ⟨Nat.le_of_ble_eq_true rfl, Nat.le_of_ble_eq_true rfl⟩) (va_recv hK hP (ci := 3) (q0 := 0) rfl rfl) hK hP hD hS hA rfl hl.1 rfl (Nat.le_of_ble_eq_true rfl) dX3_sum_11 ⟨Nat.zero_le _, Nat.zero_le _⟩ (fun r4 u3 H locs hw hP hD hS => ?_)
  obtain ⟨hz, hw⟩ := hw
  refine lv_if_eq (tgt := 34) hx hb dX3_sum_14 (by decide) (fun c5 => ?_) (fun c5 => ?_)
  · have hw := brN.t hw c5
    refine lv_iconst (v := 0) hx hb dX3_sum_34 (by decide) ?_
    refine lv_istore (lv' := [(4, .int 0), (0, .ref (am 0)), (1, .int p0), (2, .int p1), (3, .int p2)]) hx hb dX3_sum_35 hl (by decide) rfl (fun ls hl => ?_)
    refine lv_lconst (v := 0) hx hb dX3_sum_37 (by decide) ?_
    refine lv_lstore (lv' := [(5, .long 0), (4, .int 0), (0, .ref (am 0)), (1, .int p0), (2, .int p1), (3, .int p2)]) hx hb dX3_sum_38 hl (by decide) rfl (fun ls hl => ?_)
    refine lv_iconst (v := 0) hx hb dX3_sum_40 (by decide) ?_
    refine lv_istore (lv' := [(7, .int 0), (5, .long 0), (4, .int 0), (0, .ref (am 0)), (1, .int p0), (2, .int p1), (3, .int p2)]) hx hb dX3_sum_41 hl (by decide) rfl (fun ls hl => ?_)
    obtain ⟨n9, hw⟩ := hw
    exact hlp43 n9 p1 p2 0 0 0 u3 hw _ _ hP hD hS _ (lv_sub hl [3, 5, 6, 2, 1, 0] rfl)
  · have hw := brN.f hw c5
    refine lv_aload_n hx hb dX3_sum_17 rfl (lv_at hl 0 rfl) ?_
    refine lv_aload_n hx hb dX3_sum_18 rfl (lv_at hl 0 rfl) ?_
    refine va_get (D := G) (ci := 3) (v := .ref (am 10)) (C := RX3) (T := TX3) (N := 24) hx hb hts hiX3 hown hK hP 0 rfl rfl 16 (by decide) (hts (.fieldLink RX3 38 "TreapVersionsModel" "root" "[I") (by decide +kernel)) (fun _ h9 => h9) rfl dX3_sum_19 ?_
    refine lv_iload_n hx hb dX3_sum_22 rfl (lv_at hl 1 rfl) ?_
    refine va_iald hx hb hK hP 10 0 rfl rfl (rdA.hin hw) dX3_sum_23 ?_
    refine lv_topi (fun z21 ez21 => ?_)
    have hw := rdA.go hw z21 ez21
    refine lv_aload_n hx hb dX3_sum_24 rfl (lv_at hl 0 rfl) ?_
    refine va_get (D := G) (ci := 3) (v := .ref (am 7)) (C := RX3) (T := TX3) (N := 24) hx hb hts hiX3 hown hK hP 0 rfl rfl 12 (by decide) (hts (.fieldLink RX3 29 "TreapVersionsModel" "other" "[Z") (by decide +kernel)) (fun _ h9 => h9) rfl dX3_sum_25 ?_
    refine CtI.call (As := [.int z21, .ref (am 7)]) (rest := []) (c_X3_markO l G am cI cZ z21 u3 _ hw) ⟨hx, hb, hml, hown, hts⟩ (cwV 2 hts gX3_sum_X3_mark rfl rfl rfl (by decide +kernel) ⟨Nat.le_of_ble_eq_true rfl, Nat.le_of_ble_eq_true rfl⟩) (va_recv hK hP (ci := 3) (q0 := 0) rfl rfl) hK hP hD hS hA rfl hl.1 rfl (Nat.le_of_ble_eq_true rfl) dX3_sum_28 ⟨Nat.zero_le _, Nat.zero_le _⟩ (fun r23 u22 H locs hw hP hD hS => ?_)
    refine lv_goto (tgt := 35) hx hb dX3_sum_31 (by decide) ?_
    refine lv_istore (lv' := [(4, .int r23), (0, .ref (am 0)), (1, .int p0), (2, .int p1), (3, .int p2)]) hx hb dX3_sum_35 hl (by decide) rfl (fun ls hl => ?_)
    refine lv_lconst (v := 0) hx hb dX3_sum_37 (by decide) ?_
    refine lv_lstore (lv' := [(5, .long 0), (4, .int r23), (0, .ref (am 0)), (1, .int p0), (2, .int p1), (3, .int p2)]) hx hb dX3_sum_38 hl (by decide) rfl (fun ls hl => ?_)
    refine lv_iconst (v := 0) hx hb dX3_sum_40 (by decide) ?_
    refine lv_istore (lv' := [(7, .int 0), (5, .long 0), (4, .int r23), (0, .ref (am 0)), (1, .int p0), (2, .int p1), (3, .int p2)]) hx hb dX3_sum_41 hl (by decide) rfl (fun ls hl => ?_)
    obtain ⟨n9, hw⟩ := hw
    exact hlp43 n9 p1 p2 r23 0 0 u22 hw _ _ hP hD hS _ (lv_sub hl [3, 5, 6, 2, 1, 0] rfl)
set_option maxHeartbeats 4000000 in
set_option maxRecDepth 100000 in
theorem c_X3_depth (l : Launch) (G : va_G) (am : Nat → Nat) (cI cZ : ClassId) (p0 : Int32) (p1 : Int32) (u : CS) (post : Int32 → CS → Prop) (hw : wp_X3_depth p0 p1 u post) : CtI l yX3_depth wsX3_depth ({ frames := 1, cells := 0, slots := 0, locals := 25 }) G (ty2 cI cZ) (mw am cI cZ) [.ref (am 0), .int p0, .int p1] u post := by
  refine CtI.of (cc := cX3_depth) (maxL := 4) (rt := .int) (by decide) rfl (Nat.le_of_ble_eq_true rfl) ?_
  intro p e s m below meth c A Q hx hb hml hts hown hK hA hret ls hl hP hD hS
  have hiX3 : ∀ w ∈ u_ws RX3 TX3 24, w ∈ wsX3_depth := by decide +kernel
  have hown : s.vm.findClass RX3 = some m.cls := hown
  have hl : lv_has ls 4 [(0, .ref (am 0)), (1, .int p0), (2, .int p1)] := hl
  unfold wp_X3_depth at hw
  refine lv_aload_n hx hb dX3_depth_0 rfl (lv_at hl 0 rfl) ?_
  refine lv_iload_n hx hb dX3_depth_1 rfl (lv_at hl 1 rfl) ?_
  refine CtI.call (As := [.int p0]) (rest := []) (c_X3_has l G am cI cZ p0 u _ hw) ⟨hx, hb, hml, hown, hts⟩ (cwV 1 hts gX3_depth_X3_has rfl rfl rfl (by decide +kernel) ⟨Nat.le_of_ble_eq_true rfl, Nat.le_of_ble_eq_true rfl⟩) (va_recv hK hP (ci := 3) (q0 := 0) rfl rfl) hK hP hD hS hA rfl hl.1 rfl (Nat.le_of_ble_eq_true rfl) dX3_depth_2 ⟨Nat.zero_le _, Nat.zero_le _⟩ (fun r2 u1 H locs hw hP hD hS => ?_)
  obtain ⟨hz, hw⟩ := hw
  refine lv_if_eq (tgt := 22) hx hb dX3_depth_5 (by decide) (fun c3 => ?_) (fun c3 => ?_)
  · have hw := brN.t hw c3
    refine lv_iconst (v := (-1)) hx hb dX3_depth_22 (by decide) ?_
    refine lv_istore_n (lv' := [(3, .int (-1)), (0, .ref (am 0)), (1, .int p0), (2, .int p1)]) hx hb dX3_depth_23 rfl hl (by decide) rfl (fun ls hl => ?_)
    refine lv_aload_n hx hb dX3_depth_24 rfl (lv_at hl 1 rfl) ?_
    refine lv_iload_n hx hb dX3_depth_25 rfl (lv_at hl 0 rfl) ?_
    refine lv_if_ge (tgt := 33) hx hb dX3_depth_26 (by decide) (fun c4 => ?_) (fun c4 => ?_)
    · exact absurd c4 (by decide)
    · refine lv_iconst (v := 1) hx hb dX3_depth_29 (by decide) ?_
      refine lv_goto (tgt := 34) hx hb dX3_depth_30 (by decide) ?_
      refine va_put (D := G) (ci := 3) (v := .int 1) (ty := .int) (C := RX3) (T := TX3) (N := 24) hx hb hts hiX3 tyX3 tyX3_ok nmX3 hown hK hP hD hS 0 rfl rfl 0 (by decide) (hts (.fieldLink RX3 54 "TreapVersionsModel" "thrown" "I") (by decide +kernel)) (fun _ h9 => h9) rfl (by decide +kernel) rfl rfl (Nat.le_of_ble_eq_true rfl) dX3_depth_34 (fun H locs hP hD hS => ?_)
      obtain ⟨u5, eu5⟩ : ∃ z : CS, z = cset u1 0 (fun _ => 1) := ⟨_, rfl⟩
      have hP : va_P G vwCl (mw am cI cZ (cset u1 0 (fun _ => 1))) H := hP
      have hD : va_D A (mw am cI cZ (cset u1 0 (fun _ => 1))) := hD
      rw [← eu5] at hP hD
      have hw := stF.go hw u5 eu5
      refine lv_iload_n hx hb dX3_depth_37 rfl (lv_at hl 0 rfl) ?_
      refine lv_if_ge (tgt := 43) hx hb dX3_depth_38 (by decide) (fun c6 => ?_) (fun c6 => ?_)
      · exact absurd c6 (by decide)
      · refine lv_iconst (v := 0) hx hb dX3_depth_41 (by decide) ?_
        exact hret 0 u5 42 _ _ _ dX3_depth_42 rfl hw hP hD hS
  · have hw := brN.f hw c3
    refine lv_aload_n hx hb dX3_depth_8 rfl (lv_at hl 0 rfl) ?_
    refine lv_aload_n hx hb dX3_depth_9 rfl (lv_at hl 0 rfl) ?_
    refine va_get (D := G) (ci := 3) (v := .ref (am 10)) (C := RX3) (T := TX3) (N := 24) hx hb hts hiX3 hown hK hP 0 rfl rfl 16 (by decide) (hts (.fieldLink RX3 38 "TreapVersionsModel" "root" "[I") (by decide +kernel)) (fun _ h9 => h9) rfl dX3_depth_10 ?_
    refine lv_iload_n hx hb dX3_depth_13 rfl (lv_at hl 1 rfl) ?_
    refine va_iald hx hb hK hP 10 0 rfl rfl (rdA.hin hw) dX3_depth_14 ?_
    refine lv_topi (fun z7 ez7 => ?_)
    have hw := rdA.go hw z7 ez7
    refine lv_iload_n hx hb dX3_depth_15 rfl (lv_at hl 2 rfl) ?_
    refine CtI.call (As := [.int z7, .int p1]) (rest := []) (c_X3_find l G am cI cZ z7 p1 u1 _ hw) ⟨hx, hb, hml, hown, hts⟩ (cwV 2 hts gX3_depth_X3_find rfl rfl rfl (by decide +kernel) ⟨Nat.le_of_ble_eq_true rfl, Nat.le_of_ble_eq_true rfl⟩) (va_recv hK hP (ci := 3) (q0 := 0) rfl rfl) hK hP hD hS hA rfl hl.1 rfl (Nat.le_of_ble_eq_true rfl) dX3_depth_16 ⟨Nat.zero_le _, Nat.zero_le _⟩ (fun r9 u8 H locs hw hP hD hS => ?_)
    refine lv_goto (tgt := 23) hx hb dX3_depth_19 (by decide) ?_
    refine lv_istore_n (lv' := [(3, .int r9), (0, .ref (am 0)), (1, .int p0), (2, .int p1)]) hx hb dX3_depth_23 rfl hl (by decide) rfl (fun ls hl => ?_)
    refine lv_aload_n hx hb dX3_depth_24 rfl (lv_at hl 1 rfl) ?_
    refine lv_iload_n hx hb dX3_depth_25 rfl (lv_at hl 0 rfl) ?_
    refine lv_if_ge (tgt := 33) hx hb dX3_depth_26 (by decide) (fun c10 => ?_) (fun c10 => ?_)
    · have hw := brN.t hw c10
      refine lv_iconst (v := 0) hx hb dX3_depth_33 (by decide) ?_
      refine va_put (D := G) (ci := 3) (v := .int 0) (ty := .int) (C := RX3) (T := TX3) (N := 24) hx hb hts hiX3 tyX3 tyX3_ok nmX3 hown hK hP hD hS 0 rfl rfl 0 (by decide) (hts (.fieldLink RX3 54 "TreapVersionsModel" "thrown" "I") (by decide +kernel)) (fun _ h9 => h9) rfl (by decide +kernel) rfl rfl (Nat.le_of_ble_eq_true rfl) dX3_depth_34 (fun H locs hP hD hS => ?_)
      obtain ⟨u11, eu11⟩ : ∃ z : CS, z = cset u8 0 (fun _ => 0) := ⟨_, rfl⟩
      have hP : va_P G vwCl (mw am cI cZ (cset u8 0 (fun _ => 0))) H := hP
      have hD : va_D A (mw am cI cZ (cset u8 0 (fun _ => 0))) := hD
      rw [← eu11] at hP hD
      have hw := stF.go hw u11 eu11
      refine lv_iload_n hx hb dX3_depth_37 rfl (lv_at hl 0 rfl) ?_
      refine lv_if_ge (tgt := 43) hx hb dX3_depth_38 (by decide) (fun c12 => ?_) (fun c12 => ?_)
      · have hw := brN.t hw c12
        refine lv_aload_n hx hb dX3_depth_43 rfl (lv_at hl 1 rfl) ?_
        refine lv_aload_n hx hb dX3_depth_44 rfl (lv_at hl 1 rfl) ?_
        refine va_get (D := G) (ci := 3) (v := .ref (am 10)) (C := RX3) (T := TX3) (N := 24) hx hb hts hiX3 hown hK hP 0 rfl rfl 16 (by decide) (hts (.fieldLink RX3 38 "TreapVersionsModel" "root" "[I") (by decide +kernel)) (fun _ h9 => h9) rfl dX3_depth_45 ?_
        refine lv_iload_n hx hb dX3_depth_48 rfl (lv_at hl 2 rfl) ?_
        refine va_iald hx hb hK hP 10 0 rfl rfl (rdA.hin hw) dX3_depth_49 ?_
        refine lv_topi (fun z13 ez13 => ?_)
        have hw := rdA.go hw z13 ez13
        refine lv_iload_n hx hb dX3_depth_50 rfl (lv_at hl 3 rfl) ?_
        refine lv_iconst (v := 1) hx hb dX3_depth_51 (by decide) ?_
        refine CtV.call (As := [.int z13, .int p1, .int 1]) (rest := []) (c_X3_go l G am cI cZ z13 p1 1 u11 _ hw) ⟨hx, hb, hml, hown, hts⟩ (cwV 3 hts gX3_depth_X3_go rfl rfl rfl (by decide +kernel) ⟨Nat.le_of_ble_eq_true rfl, Nat.le_of_ble_eq_true rfl⟩) (va_recv hK hP (ci := 3) (q0 := 0) rfl rfl) hK hP hD hS hA rfl hl.1 rfl (Nat.le_of_ble_eq_true rfl) dX3_depth_52 ⟨Nat.zero_le _, Nat.zero_le _⟩ (fun u14 H locs hw hP hD hS => ?_)
        refine lv_aload_n hx hb dX3_depth_55 rfl (lv_at hl 1 rfl) ?_
        refine va_get (D := G) (ci := 3) (v := .int (u14 22 0)) (C := RX3) (T := TX3) (N := 24) hx hb hts hiX3 hown hK hP 0 rfl rfl 22 (by decide) (hts (.fieldLink RX3 88 "TreapVersionsModel" "steps" "I") (by decide +kernel)) (fun _ h9 => h9) rfl dX3_depth_56 ?_
        refine lv_topi (fun z15 ez15 => ?_)
        have hw := nmI.go hw z15 ez15
        refine lv_iconst (v := 1) hx hb dX3_depth_59 (by decide) ?_
        refine lv_isub hx hb dX3_depth_60 ?_
        refine lv_topi (fun z16 ez16 => ?_)
        have hw := nmI.go hw z16 ez16
        exact hret z16 u14 61 _ _ _ dX3_depth_61 rfl hw hP hD hS
      · have hw := brN.f hw c12
        refine lv_iconst (v := 0) hx hb dX3_depth_41 (by decide) ?_
        exact hret 0 u11 42 _ _ _ dX3_depth_42 rfl hw hP hD hS
    · have hw := brN.f hw c10
      refine lv_iconst (v := 1) hx hb dX3_depth_29 (by decide) ?_
      refine lv_goto (tgt := 34) hx hb dX3_depth_30 (by decide) ?_
      refine va_put (D := G) (ci := 3) (v := .int 1) (ty := .int) (C := RX3) (T := TX3) (N := 24) hx hb hts hiX3 tyX3 tyX3_ok nmX3 hown hK hP hD hS 0 rfl rfl 0 (by decide) (hts (.fieldLink RX3 54 "TreapVersionsModel" "thrown" "I") (by decide +kernel)) (fun _ h9 => h9) rfl (by decide +kernel) rfl rfl (Nat.le_of_ble_eq_true rfl) dX3_depth_34 (fun H locs hP hD hS => ?_)
      obtain ⟨u17, eu17⟩ : ∃ z : CS, z = cset u8 0 (fun _ => 1) := ⟨_, rfl⟩
      have hP : va_P G vwCl (mw am cI cZ (cset u8 0 (fun _ => 1))) H := hP
      have hD : va_D A (mw am cI cZ (cset u8 0 (fun _ => 1))) := hD
      rw [← eu17] at hP hD
      have hw := stF.go hw u17 eu17
      refine lv_iload_n hx hb dX3_depth_37 rfl (lv_at hl 0 rfl) ?_
      refine lv_if_ge (tgt := 43) hx hb dX3_depth_38 (by decide) (fun c18 => ?_) (fun c18 => ?_)
      · have hw := brN.t hw c18
        refine lv_aload_n hx hb dX3_depth_43 rfl (lv_at hl 1 rfl) ?_
        refine lv_aload_n hx hb dX3_depth_44 rfl (lv_at hl 1 rfl) ?_
        refine va_get (D := G) (ci := 3) (v := .ref (am 10)) (C := RX3) (T := TX3) (N := 24) hx hb hts hiX3 hown hK hP 0 rfl rfl 16 (by decide) (hts (.fieldLink RX3 38 "TreapVersionsModel" "root" "[I") (by decide +kernel)) (fun _ h9 => h9) rfl dX3_depth_45 ?_
        refine lv_iload_n hx hb dX3_depth_48 rfl (lv_at hl 2 rfl) ?_
        refine va_iald hx hb hK hP 10 0 rfl rfl (rdA.hin hw) dX3_depth_49 ?_
        refine lv_topi (fun z19 ez19 => ?_)
        have hw := rdA.go hw z19 ez19
        refine lv_iload_n hx hb dX3_depth_50 rfl (lv_at hl 3 rfl) ?_
        refine lv_iconst (v := 1) hx hb dX3_depth_51 (by decide) ?_
        refine CtV.call (As := [.int z19, .int p1, .int 1]) (rest := []) (c_X3_go l G am cI cZ z19 p1 1 u17 _ hw) ⟨hx, hb, hml, hown, hts⟩ (cwV 3 hts gX3_depth_X3_go rfl rfl rfl (by decide +kernel) ⟨Nat.le_of_ble_eq_true rfl, Nat.le_of_ble_eq_true rfl⟩) (va_recv hK hP (ci := 3) (q0 := 0) rfl rfl) hK hP hD hS hA rfl hl.1 rfl (Nat.le_of_ble_eq_true rfl) dX3_depth_52 ⟨Nat.zero_le _, Nat.zero_le _⟩ (fun u20 H locs hw hP hD hS => ?_)
        refine lv_aload_n hx hb dX3_depth_55 rfl (lv_at hl 1 rfl) ?_
        refine va_get (D := G) (ci := 3) (v := .int (u20 22 0)) (C := RX3) (T := TX3) (N := 24) hx hb hts hiX3 hown hK hP 0 rfl rfl 22 (by decide) (hts (.fieldLink RX3 88 "TreapVersionsModel" "steps" "I") (by decide +kernel)) (fun _ h9 => h9) rfl dX3_depth_56 ?_
        refine lv_topi (fun z21 ez21 => ?_)
        have hw := nmI.go hw z21 ez21
        refine lv_iconst (v := 1) hx hb dX3_depth_59 (by decide) ?_
        refine lv_isub hx hb dX3_depth_60 ?_
        refine lv_topi (fun z22 ez22 => ?_)
        have hw := nmI.go hw z22 ez22
        exact hret z22 u20 61 _ _ _ dX3_depth_61 rfl hw hP hD hS
      · have hw := brN.f hw c18
        refine lv_iconst (v := 0) hx hb dX3_depth_41 (by decide) ?_
        exact hret 0 u17 42 _ _ _ dX3_depth_42 rfl hw hP hD hS
set_option maxHeartbeats 4000000 in
set_option maxRecDepth 100000 in
theorem c_X3_union (l : Launch) (G : va_G) (am : Nat → Nat) (cI cZ : ClassId) (p0 : Int32) (p1 : Int32) (u : CS) (post : Int32 → CS → Prop) (hw : wp_X3_union p0 p1 u post) : CtI l yX3_union wsX3_union ({ frames := 1, cells := 0, slots := 0, locals := 24 }) G (ty2 cI cZ) (mw am cI cZ) [.ref (am 0), .int p0, .int p1] u post := by
  refine CtI.of (cc := cX3_union) (maxL := 3) (rt := .int) (by decide) rfl (Nat.le_of_ble_eq_true rfl) ?_
  intro p e s m below meth c A Q hx hb hml hts hown hK hA hret ls hl hP hD hS
  have hiX3 : ∀ w ∈ u_ws RX3 TX3 24, w ∈ wsX3_union := by decide +kernel
  have hown : s.vm.findClass RX3 = some m.cls := hown
  have hl : lv_has ls 3 [(0, .ref (am 0)), (1, .int p0), (2, .int p1)] := hl
  unfold wp_X3_union at hw
  refine lv_aload_n hx hb dX3_union_0 rfl (lv_at hl 0 rfl) ?_
  refine CtV.call (As := []) (rest := []) (c_X3_clear l G am cI cZ u _ hw) ⟨hx, hb, hml, hown, hts⟩ (cwV 0 hts gX3_union_X3_clear rfl rfl rfl (by decide +kernel) ⟨Nat.le_of_ble_eq_true rfl, Nat.le_of_ble_eq_true rfl⟩) (va_recv hK hP (ci := 3) (q0 := 0) rfl rfl) hK hP hD hS hA rfl hl.1 rfl (Nat.le_of_ble_eq_true rfl) dX3_union_1 ⟨Nat.zero_le _, Nat.zero_le _⟩ (fun u1 H locs hw hP hD hS => ?_)
  refine lv_aload_n hx hb dX3_union_4 rfl (lv_at hl 0 rfl) ?_
  refine lv_aload_n hx hb dX3_union_5 rfl (lv_at hl 0 rfl) ?_
  refine va_get (D := G) (ci := 3) (v := .ref (am 10)) (C := RX3) (T := TX3) (N := 24) hx hb hts hiX3 hown hK hP 0 rfl rfl 16 (by decide) (hts (.fieldLink RX3 38 "TreapVersionsModel" "root" "[I") (by decide +kernel)) (fun _ h9 => h9) rfl dX3_union_6 ?_
  refine lv_iload_n hx hb dX3_union_9 rfl (lv_at hl 1 rfl) ?_
  refine va_iald hx hb hK hP 10 0 rfl rfl (rdA.hin hw) dX3_union_10 ?_
  refine lv_topi (fun z2 ez2 => ?_)
  have hw := rdA.go hw z2 ez2
  refine lv_aload_n hx hb dX3_union_11 rfl (lv_at hl 0 rfl) ?_
  refine va_get (D := G) (ci := 3) (v := .ref (am 7)) (C := RX3) (T := TX3) (N := 24) hx hb hts hiX3 hown hK hP 0 rfl rfl 12 (by decide) (hts (.fieldLink RX3 29 "TreapVersionsModel" "other" "[Z") (by decide +kernel)) (fun _ h9 => h9) rfl dX3_union_12 ?_
  refine CtI.call (As := [.int z2, .ref (am 7)]) (rest := []) (c_X3_markO l G am cI cZ z2 u1 _ hw) ⟨hx, hb, hml, hown, hts⟩ (cwV 2 hts gX3_union_X3_mark rfl rfl rfl (by decide +kernel) ⟨Nat.le_of_ble_eq_true rfl, Nat.le_of_ble_eq_true rfl⟩) (va_recv hK hP (ci := 3) (q0 := 0) rfl rfl) hK hP hD hS hA rfl hl.1 rfl (Nat.le_of_ble_eq_true rfl) dX3_union_15 ⟨Nat.zero_le _, Nat.zero_le _⟩ (fun r4 u3 H locs hw hP hD hS => ?_)
  refine lv_aload_n hx hb dX3_union_18 rfl (lv_at hl 0 rfl) ?_
  refine lv_aload_n hx hb dX3_union_19 rfl (lv_at hl 0 rfl) ?_
  refine va_get (D := G) (ci := 3) (v := .ref (am 10)) (C := RX3) (T := TX3) (N := 24) hx hb hts hiX3 hown hK hP 0 rfl rfl 16 (by decide) (hts (.fieldLink RX3 38 "TreapVersionsModel" "root" "[I") (by decide +kernel)) (fun _ h9 => h9) rfl dX3_union_20 ?_
  refine lv_iload_n hx hb dX3_union_23 rfl (lv_at hl 2 rfl) ?_
  refine va_iald hx hb hK hP 10 0 rfl rfl (rdA.hin hw) dX3_union_24 ?_
  refine lv_topi (fun z5 ez5 => ?_)
  have hw := rdA.go hw z5 ez5
  refine lv_aload_n hx hb dX3_union_25 rfl (lv_at hl 0 rfl) ?_
  refine va_get (D := G) (ci := 3) (v := .ref (am 7)) (C := RX3) (T := TX3) (N := 24) hx hb hts hiX3 hown hK hP 0 rfl rfl 12 (by decide) (hts (.fieldLink RX3 29 "TreapVersionsModel" "other" "[Z") (by decide +kernel)) (fun _ h9 => h9) rfl dX3_union_26 ?_
  refine CtI.call (As := [.int z5, .ref (am 7)]) (rest := [.int r4]) (c_X3_markO l G am cI cZ z5 u3 _ hw) ⟨hx, hb, hml, hown, hts⟩ (cwV 2 hts gX3_union_X3_mark rfl rfl rfl (by decide +kernel) ⟨Nat.le_of_ble_eq_true rfl, Nat.le_of_ble_eq_true rfl⟩) (va_recv hK hP (ci := 3) (q0 := 0) rfl rfl) hK hP hD hS hA rfl hl.1 rfl (Nat.le_of_ble_eq_true rfl) dX3_union_29 ⟨Nat.zero_le _, Nat.zero_le _⟩ (fun r7 u6 H locs hw hP hD hS => ?_)
  refine lv_iadd hx hb dX3_union_32 ?_
  refine lv_topi (fun z8 ez8 => ?_)
  have hw := nmI.go hw z8 ez8
  exact hret z8 u6 33 _ _ _ dX3_union_33 rfl hw hP hD hS
set_option maxHeartbeats 4000000 in
set_option maxRecDepth 100000 in
theorem c_X3_shared (l : Launch) (G : va_G) (am : Nat → Nat) (cI cZ : ClassId) (p0 : Int32) (p1 : Int32) (u : CS) (post : Int32 → CS → Prop) (hw : wp_X3_shared p0 p1 u post) : CtI l yX3_shared wsX3_shared ({ frames := 2, cells := 0, slots := 0, locals := 46 }) G (ty2 cI cZ) (mw am cI cZ) [.ref (am 0), .int p0, .int p1] u post := by
  refine CtI.of (cc := cX3_shared) (maxL := 4) (rt := .int) (by decide) rfl (Nat.le_of_ble_eq_true rfl) ?_
  intro p e s m below meth c A Q hx hb hml hts hown hK hA hret ls hl hP hD hS
  have hiX3 : ∀ w ∈ u_ws RX3 TX3 24, w ∈ wsX3_shared := by decide +kernel
  have hown : s.vm.findClass RX3 = some m.cls := hown
  have hl : lv_has ls 4 [(0, .ref (am 0)), (1, .int p0), (2, .int p1)] := hl
  unfold wp_X3_shared at hw
  refine lv_aload_n hx hb dX3_shared_0 rfl (lv_at hl 0 rfl) ?_
  refine lv_iconst (v := 0) hx hb dX3_shared_1 (by decide) ?_
  refine va_put (D := G) (ci := 3) (v := .int 0) (ty := .int) (C := RX3) (T := TX3) (N := 24) hx hb hts hiX3 tyX3 tyX3_ok nmX3 hown hK hP hD hS 0 rfl rfl 0 (by decide) (hts (.fieldLink RX3 54 "TreapVersionsModel" "thrown" "I") (by decide +kernel)) (fun _ h9 => h9) rfl (by decide +kernel) rfl rfl (Nat.le_of_ble_eq_true rfl) dX3_shared_2 (fun H locs hP hD hS => ?_)
  obtain ⟨u1, eu1⟩ : ∃ z : CS, z = cset u 0 (fun _ => 0) := ⟨_, rfl⟩
  have hP : va_P G vwCl (mw am cI cZ (cset u 0 (fun _ => 0))) H := hP
  have hD : va_D A (mw am cI cZ (cset u 0 (fun _ => 0))) := hD
  rw [← eu1] at hP hD
  have hw := stF.go hw u1 eu1
  refine lv_aload_n hx hb dX3_shared_5 rfl (lv_at hl 0 rfl) ?_
  refine lv_iload_n hx hb dX3_shared_6 rfl (lv_at hl 1 rfl) ?_
  refine CtI.call (As := [.int p0]) (rest := []) (c_X3_has l G am cI cZ p0 u1 _ hw) ⟨hx, hb, hml, hown, hts⟩ (cwV 1 hts gX3_shared_X3_has rfl rfl rfl (by decide +kernel) ⟨Nat.le_of_ble_eq_true rfl, Nat.le_of_ble_eq_true rfl⟩) (va_recv hK hP (ci := 3) (q0 := 0) rfl rfl) hK hP hD hS hA rfl hl.1 rfl (Nat.le_of_ble_eq_true rfl) dX3_shared_7 ⟨Nat.zero_le _, Nat.zero_le _⟩ (fun r3 u2 H locs hw hP hD hS => ?_)
  obtain ⟨hz, hw⟩ := hw
  refine lv_if_eq (tgt := 21) hx hb dX3_shared_10 (by decide) (fun c4 => ?_) (fun c4 => ?_)
  · have hw := brN.t hw c4
    refine lv_iconst (v := (-1)) hx hb dX3_shared_21 (by decide) ?_
    exact hret (-1) u2 22 _ _ _ dX3_shared_22 rfl hw hP hD hS
  · have hw := brN.f hw c4
    refine lv_aload_n hx hb dX3_shared_13 rfl (lv_at hl 0 rfl) ?_
    refine lv_iload_n hx hb dX3_shared_14 rfl (lv_at hl 2 rfl) ?_
    refine CtI.call (As := [.int p1]) (rest := []) (c_X3_has l G am cI cZ p1 u2 _ hw) ⟨hx, hb, hml, hown, hts⟩ (cwV 1 hts gX3_shared_X3_has rfl rfl rfl (by decide +kernel) ⟨Nat.le_of_ble_eq_true rfl, Nat.le_of_ble_eq_true rfl⟩) (va_recv hK hP (ci := 3) (q0 := 0) rfl rfl) hK hP hD hS hA rfl hl.1 rfl (Nat.le_of_ble_eq_true rfl) dX3_shared_15 ⟨Nat.zero_le _, Nat.zero_le _⟩ (fun r6 u5 H locs hw hP hD hS => ?_)
    obtain ⟨hz, hw⟩ := hw
    refine lv_if_ne (tgt := 23) hx hb dX3_shared_18 (by decide) (fun c7 => ?_) (fun c7 => ?_)
    · have hw := brN.f hw c7
      refine lv_aload_n hx hb dX3_shared_23 rfl (lv_at hl 0 rfl) ?_
      refine CtV.call (As := []) (rest := []) (c_X3_clear l G am cI cZ u5 _ hw) ⟨hx, hb, hml, hown, hts⟩ (cwV 0 hts gX3_shared_X3_clear rfl rfl rfl (by decide +kernel) ⟨Nat.le_of_ble_eq_true rfl, Nat.le_of_ble_eq_true rfl⟩) (va_recv hK hP (ci := 3) (q0 := 0) rfl rfl) hK hP hD hS hA rfl hl.1 rfl (Nat.le_of_ble_eq_true rfl) dX3_shared_24 ⟨Nat.zero_le _, Nat.zero_le _⟩ (fun u8 H locs hw hP hD hS => ?_)
      refine lv_aload_n hx hb dX3_shared_27 rfl (lv_at hl 0 rfl) ?_
      refine lv_aload_n hx hb dX3_shared_28 rfl (lv_at hl 0 rfl) ?_
      refine va_get (D := G) (ci := 3) (v := .ref (am 10)) (C := RX3) (T := TX3) (N := 24) hx hb hts hiX3 hown hK hP 0 rfl rfl 16 (by decide) (hts (.fieldLink RX3 38 "TreapVersionsModel" "root" "[I") (by decide +kernel)) (fun _ h9 => h9) rfl dX3_shared_29 ?_
      refine lv_iload_n hx hb dX3_shared_32 rfl (lv_at hl 1 rfl) ?_
      refine va_iald hx hb hK hP 10 0 rfl rfl (rdA.hin hw) dX3_shared_33 ?_
      refine lv_topi (fun z9 ez9 => ?_)
      have hw := rdA.go hw z9 ez9
      refine lv_aload_n hx hb dX3_shared_34 rfl (lv_at hl 0 rfl) ?_
      refine va_get (D := G) (ci := 3) (v := .ref (am 7)) (C := RX3) (T := TX3) (N := 24) hx hb hts hiX3 hown hK hP 0 rfl rfl 12 (by decide) (hts (.fieldLink RX3 29 "TreapVersionsModel" "other" "[Z") (by decide +kernel)) (fun _ h9 => h9) rfl dX3_shared_35 ?_
      refine CtI.call (As := [.int z9, .ref (am 7)]) (rest := []) (c_X3_markO l G am cI cZ z9 u8 _ hw) ⟨hx, hb, hml, hown, hts⟩ (cwV 2 hts gX3_shared_X3_mark rfl rfl rfl (by decide +kernel) ⟨Nat.le_of_ble_eq_true rfl, Nat.le_of_ble_eq_true rfl⟩) (va_recv hK hP (ci := 3) (q0 := 0) rfl rfl) hK hP hD hS hA rfl hl.1 rfl (Nat.le_of_ble_eq_true rfl) dX3_shared_38 ⟨Nat.zero_le _, Nat.zero_le _⟩ (fun r11 u10 H locs hw hP hD hS => ?_)
      refine lv_istore_n (lv' := [(3, .int r11), (0, .ref (am 0)), (1, .int p0), (2, .int p1)]) hx hb dX3_shared_41 rfl hl (by decide) rfl (fun ls hl => ?_)
      refine lv_iload_n hx hb dX3_shared_42 rfl (lv_at hl 0 rfl) ?_
      refine lv_aload_n hx hb dX3_shared_43 rfl (lv_at hl 1 rfl) ?_
      refine lv_iload_n hx hb dX3_shared_44 rfl (lv_at hl 3 rfl) ?_
      refine CtI.call (As := [.int p1]) (rest := [.int r11]) (c_X3_size l G am cI cZ p1 u10 _ hw) ⟨hx, hb, hml, hown, hts⟩ (cwV 1 hts gX3_shared_X3_size rfl rfl rfl (by decide +kernel) ⟨Nat.le_of_ble_eq_true rfl, Nat.le_of_ble_eq_true rfl⟩) (va_recv hK hP (ci := 3) (q0 := 0) rfl rfl) hK hP hD hS hA rfl hl.1 rfl (Nat.le_of_ble_eq_true rfl) dX3_shared_45 ⟨Nat.zero_le _, Nat.zero_le _⟩ (fun r13 u12 H locs hw hP hD hS => ?_)
      refine lv_iadd hx hb dX3_shared_48 ?_
      refine lv_topi (fun z14 ez14 => ?_)
      have hw := nmI.go hw z14 ez14
      refine lv_aload_n hx hb dX3_shared_49 rfl (lv_at hl 1 rfl) ?_
      refine lv_iload_n hx hb dX3_shared_50 rfl (lv_at hl 2 rfl) ?_
      refine lv_iload_n hx hb dX3_shared_51 rfl (lv_at hl 3 rfl) ?_
      refine CtI.call (As := [.int p0, .int p1]) (rest := [.int z14]) (c_X3_union l G am cI cZ p0 p1 u12 _ hw) ⟨hx, hb, hml, hown, hts⟩ (cwV 2 hts gX3_shared_X3_union rfl rfl rfl (by decide +kernel) ⟨Nat.le_of_ble_eq_true rfl, Nat.le_of_ble_eq_true rfl⟩) (va_recv hK hP (ci := 3) (q0 := 0) rfl rfl) hK hP hD hS hA rfl hl.1 rfl (Nat.le_of_ble_eq_true rfl) dX3_shared_52 ⟨Nat.zero_le _, Nat.zero_le _⟩ (fun r16 u15 H locs hw hP hD hS => ?_)
      refine lv_isub hx hb dX3_shared_55 ?_
      refine lv_topi (fun z17 ez17 => ?_)
      have hw := nmI.go hw z17 ez17
      exact hret z17 u15 56 _ _ _ dX3_shared_56 rfl hw hP hD hS
    · have hw := brN.t hw c7
      refine lv_iconst (v := (-1)) hx hb dX3_shared_21 (by decide) ?_
      exact hret (-1) u5 22 _ _ _ dX3_shared_22 rfl hw hP hD hS
set_option maxHeartbeats 4000000 in
set_option maxRecDepth 100000 in
theorem c_X3_nodes (l : Launch) (G : va_G) (am : Nat → Nat) (cI cZ : ClassId) (u : CS) (post : Int32 → CS → Prop) (hw : wp_X3_nodes u post) : CtI l yX3_nodes wsX3_nodes ({ frames := 2, cells := 0, slots := 0, locals := 46 }) G (ty2 cI cZ) (mw am cI cZ) [.ref (am 0)] u post := by
  refine CtI.of (cc := cX3_nodes) (maxL := 1) (rt := .int) (by decide) rfl (Nat.le_of_ble_eq_true rfl) ?_
  intro p e s m below meth c A Q hx hb hml hts hown hK hA hret ls hl hP hD hS
  have hiX3 : ∀ w ∈ u_ws RX3 TX3 24, w ∈ wsX3_nodes := by decide +kernel
  have hown : s.vm.findClass RX3 = some m.cls := hown
  have hl : lv_has ls 1 [(0, .ref (am 0))] := hl
  unfold wp_X3_nodes at hw
  refine lv_aload_n hx hb dX3_nodes_0 rfl (lv_at hl 0 rfl) ?_
  refine lv_iconst (v := 0) hx hb dX3_nodes_1 (by decide) ?_
  refine va_put (D := G) (ci := 3) (v := .int 0) (ty := .int) (C := RX3) (T := TX3) (N := 24) hx hb hts hiX3 tyX3 tyX3_ok nmX3 hown hK hP hD hS 0 rfl rfl 0 (by decide) (hts (.fieldLink RX3 54 "TreapVersionsModel" "thrown" "I") (by decide +kernel)) (fun _ h9 => h9) rfl (by decide +kernel) rfl rfl (Nat.le_of_ble_eq_true rfl) dX3_nodes_2 (fun H locs hP hD hS => ?_)
  obtain ⟨u1, eu1⟩ : ∃ z : CS, z = cset u 0 (fun _ => 0) := ⟨_, rfl⟩
  have hP : va_P G vwCl (mw am cI cZ (cset u 0 (fun _ => 0))) H := hP
  have hD : va_D A (mw am cI cZ (cset u 0 (fun _ => 0))) := hD
  rw [← eu1] at hP hD
  have hw := stF.go hw u1 eu1
  refine lv_aload_n hx hb dX3_nodes_5 rfl (lv_at hl 0 rfl) ?_
  refine CtI.call (As := []) (rest := []) (c_X3_markAll l G am cI cZ u1 _ hw) ⟨hx, hb, hml, hown, hts⟩ (cwV 0 hts gX3_nodes_X3_markAll rfl rfl rfl (by decide +kernel) ⟨Nat.le_of_ble_eq_true rfl, Nat.le_of_ble_eq_true rfl⟩) (va_recv hK hP (ci := 3) (q0 := 0) rfl rfl) hK hP hD hS hA rfl hl.1 rfl (Nat.le_of_ble_eq_true rfl) dX3_nodes_6 ⟨Nat.zero_le _, Nat.zero_le _⟩ (fun r3 u2 H locs hw hP hD hS => ?_)
  exact hret r3 u2 9 _ _ _ dX3_nodes_9 rfl hw hP hD hS
set_option maxHeartbeats 4000000 in
set_option maxRecDepth 100000 in
theorem c_X3_used (l : Launch) (G : va_G) (am : Nat → Nat) (cI cZ : ClassId) (u : CS) (post : Int32 → CS → Prop) (hw : wp_X3_used u post) : CtI l yX3_used wsX3_used ({ frames := 0, cells := 0, slots := 0, locals := 0 }) G (ty2 cI cZ) (mw am cI cZ) [.ref (am 0)] u post := by
  refine CtI.of (cc := cX3_used) (maxL := 1) (rt := .int) (by decide) rfl (Nat.le_of_ble_eq_true rfl) ?_
  intro p e s m below meth c A Q hx hb hml hts hown hK hA hret ls hl hP hD hS
  have hiX3 : ∀ w ∈ u_ws RX3 TX3 24, w ∈ wsX3_used := by decide +kernel
  have hown : s.vm.findClass RX3 = some m.cls := hown
  have hl : lv_has ls 1 [(0, .ref (am 0))] := hl
  unfold wp_X3_used at hw
  refine lv_aload_n hx hb dX3_used_0 rfl (lv_at hl 0 rfl) ?_
  refine lv_iconst (v := 0) hx hb dX3_used_1 (by decide) ?_
  refine va_put (D := G) (ci := 3) (v := .int 0) (ty := .int) (C := RX3) (T := TX3) (N := 24) hx hb hts hiX3 tyX3 tyX3_ok nmX3 hown hK hP hD hS 0 rfl rfl 0 (by decide) (hts (.fieldLink RX3 54 "TreapVersionsModel" "thrown" "I") (by decide +kernel)) (fun _ h9 => h9) rfl (by decide +kernel) rfl rfl (Nat.le_of_ble_eq_true rfl) dX3_used_2 (fun H locs hP hD hS => ?_)
  obtain ⟨u1, eu1⟩ : ∃ z : CS, z = cset u 0 (fun _ => 0) := ⟨_, rfl⟩
  have hP : va_P G vwCl (mw am cI cZ (cset u 0 (fun _ => 0))) H := hP
  have hD : va_D A (mw am cI cZ (cset u 0 (fun _ => 0))) := hD
  rw [← eu1] at hP hD
  have hw := stF.go hw u1 eu1
  refine lv_aload_n hx hb dX3_used_5 rfl (lv_at hl 0 rfl) ?_
  refine va_get (D := G) (ci := 3) (v := .int (u1 4 0)) (C := RX3) (T := TX3) (N := 24) hx hb hts hiX3 hown hK hP 0 rfl rfl 4 (by decide) (hts (.fieldLink RX3 91 "TreapVersionsModel" "used" "I") (by decide +kernel)) (fun _ h9 => h9) rfl dX3_used_6 ?_
  refine lv_topi (fun z2 ez2 => ?_)
  have hw := nmI.go hw z2 ez2
  exact hret z2 u1 9 _ _ _ dX3_used_9 rfl hw hP hD hS
set_option maxHeartbeats 4000000 in
set_option maxRecDepth 100000 in
theorem c_X3_sweeps (l : Launch) (G : va_G) (am : Nat → Nat) (cI cZ : ClassId) (u : CS) (post : Int32 → CS → Prop) (hw : wp_X3_sweeps u post) : CtI l yX3_sweeps wsX3_sweeps ({ frames := 0, cells := 0, slots := 0, locals := 0 }) G (ty2 cI cZ) (mw am cI cZ) [.ref (am 0)] u post := by
  refine CtI.of (cc := cX3_sweeps) (maxL := 1) (rt := .int) (by decide) rfl (Nat.le_of_ble_eq_true rfl) ?_
  intro p e s m below meth c A Q hx hb hml hts hown hK hA hret ls hl hP hD hS
  have hiX3 : ∀ w ∈ u_ws RX3 TX3 24, w ∈ wsX3_sweeps := by decide +kernel
  have hown : s.vm.findClass RX3 = some m.cls := hown
  have hl : lv_has ls 1 [(0, .ref (am 0))] := hl
  unfold wp_X3_sweeps at hw
  refine lv_aload_n hx hb dX3_sweeps_0 rfl (lv_at hl 0 rfl) ?_
  refine lv_iconst (v := 0) hx hb dX3_sweeps_1 (by decide) ?_
  refine va_put (D := G) (ci := 3) (v := .int 0) (ty := .int) (C := RX3) (T := TX3) (N := 24) hx hb hts hiX3 tyX3 tyX3_ok nmX3 hown hK hP hD hS 0 rfl rfl 0 (by decide) (hts (.fieldLink RX3 54 "TreapVersionsModel" "thrown" "I") (by decide +kernel)) (fun _ h9 => h9) rfl (by decide +kernel) rfl rfl (Nat.le_of_ble_eq_true rfl) dX3_sweeps_2 (fun H locs hP hD hS => ?_)
  obtain ⟨u1, eu1⟩ : ∃ z : CS, z = cset u 0 (fun _ => 0) := ⟨_, rfl⟩
  have hP : va_P G vwCl (mw am cI cZ (cset u 0 (fun _ => 0))) H := hP
  have hD : va_D A (mw am cI cZ (cset u 0 (fun _ => 0))) := hD
  rw [← eu1] at hP hD
  have hw := stF.go hw u1 eu1
  refine lv_aload_n hx hb dX3_sweeps_5 rfl (lv_at hl 0 rfl) ?_
  refine va_get (D := G) (ci := 3) (v := .int (u1 5 0)) (C := RX3) (T := TX3) (N := 24) hx hb hts hiX3 hown hK hP 0 rfl rfl 5 (by decide) (hts (.fieldLink RX3 94 "TreapVersionsModel" "sweeps" "I") (by decide +kernel)) (fun _ h9 => h9) rfl dX3_sweeps_6 ?_
  refine lv_topi (fun z2 ez2 => ?_)
  have hw := nmI.go hw z2 ez2
  exact hret z2 u1 9 _ _ _ dX3_sweeps_9 rfl hw hP hD hS
