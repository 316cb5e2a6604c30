set_option maxHeartbeats 4000000 in
set_option maxRecDepth 100000 in
theorem c_X3_thrown (l : Launch) (G : va_G) (am : Nat → Nat) (cI cZ : ClassId) (u : CS) (post : Int32 → CS → Prop) (hw : wp_X3_thrown u post) : CtI l yX3_thrown wsX3_thrown ({ frames := 0, cells := 0, slots := 0, locals := 0 }) G (ty2 cI cZ) (mw am cI cZ) [.ref (am 0)] u post := by
  refine CtI.of (cc := cX3_thrown) (maxL := 1) (rt := .int) (by decide) rfl (Nat.le_of_ble_eq_true rfl) ?_
  intro p e s m below meth c A Q hx hb hml hts hown hK hA hret ls hl hP hD hS
  have hiX3 : ∀ w ∈ u_ws RX3 TX3 24, w ∈ wsX3_thrown := by decide +kernel
  have hown : s.vm.findClass RX3 = some m.cls := hown
  have hl : lv_has ls 1 [(0, .ref (am 0))] := hl
  unfold wp_X3_thrown at hw
  refine lv_aload_n hx hb dX3_thrown_0 rfl (lv_at hl 0 rfl) ?_
  refine va_get (D := G) (ci := 3) (v := .int (u 0 0)) (C := RX3) (T := TX3) (N := 24) hx hb hts hiX3 hown hK hP 0 rfl rfl 0 (by decide) (hts (.fieldLink RX3 54 "TreapVersionsModel" "thrown" "I") (by decide +kernel)) (fun _ h9 => h9) rfl dX3_thrown_1 ?_
  refine lv_topi (fun z1 ez1 => ?_)
  have hw := nmI.go hw z1 ez1
  exact hret z1 u 4 _ _ _ dX3_thrown_4 rfl hw hP hD hS
set_option maxHeartbeats 4000000 in
set_option maxRecDepth 100000 in
theorem c_X3_fail (l : Launch) (G : va_G) (am : Nat → Nat) (cI cZ : ClassId) (p0 : Int32) (u : CS) (post : Int32 → CS → Prop) (hw : wp_X3_fail p0 u post) : CtI l yX3_fail wsX3_fail ({ frames := 0, cells := 0, slots := 0, locals := 0 }) G (ty2 cI cZ) (mw am cI cZ) [.ref (am 0), .int p0] u post := by
  refine CtI.of (cc := cX3_fail) (maxL := 2) (rt := .int) (by decide) rfl (Nat.le_of_ble_eq_true rfl) ?_
  intro p e s m below meth c A Q hx hb hml hts hown hK hA hret ls hl hP hD hS
  have hiX3 : ∀ w ∈ u_ws RX3 TX3 24, w ∈ wsX3_fail := by decide +kernel
  have hown : s.vm.findClass RX3 = some m.cls := hown
  have hl : lv_has ls 2 [(0, .ref (am 0)), (1, .int p0)] := hl
  unfold wp_X3_fail at hw
  refine lv_aload_n hx hb dX3_fail_0 rfl (lv_at hl 0 rfl) ?_
  refine lv_iload_n hx hb dX3_fail_1 rfl (lv_at hl 1 rfl) ?_
  refine va_put (D := G) (ci := 3) (v := .int p0) (ty := .int) (C := RX3) (T := TX3) (N := 24) hx hb hts hiX3 tyX3 tyX3_ok nmX3 hown hK hP hD hS 0 rfl rfl 0 (by decide) (hts (.fieldLink RX3 54 "TreapVersionsModel" "thrown" "I") (by decide +kernel)) (fun _ h9 => h9) rfl (by decide +kernel) rfl rfl (Nat.le_of_ble_eq_true rfl) dX3_fail_2 (fun H locs hP hD hS => ?_)
  obtain ⟨u1, eu1⟩ : ∃ z : CS, z = cset u 0 (fun _ => p0) := ⟨_, rfl⟩
  have hP : va_P G vwCl (mw am cI cZ (cset u 0 (fun _ => p0))) H := hP
  have hD : va_D A (mw am cI cZ (cset u 0 (fun _ => p0))) := hD
  rw [← eu1] at hP hD
  have hw := stF.go hw u1 eu1
  refine lv_iconst (v := 0) hx hb dX3_fail_5 (by decide) ?_
  exact hret 0 u1 6 _ _ _ dX3_fail_6 rfl hw hP hD hS
set_option maxHeartbeats 4000000 in
set_option maxRecDepth 100000 in
theorem c_X3_has (l : Launch) (G : va_G) (am : Nat → Nat) (cI cZ : ClassId) (p0 : Int32) (u : CS) (post : Int32 → CS → Prop) (hw : wp_X3_has p0 u post) : CtI l yX3_has wsX3_has ({ frames := 0, cells := 0, slots := 0, locals := 0 }) G (ty2 cI cZ) (mw am cI cZ) [.ref (am 0), .int p0] u (fun r u => isB r ∧ post r u) := by
  refine CtI.of (cc := cX3_has) (maxL := 2) (rt := .boolean) (by decide) rfl (Nat.le_of_ble_eq_true rfl) ?_
  intro p e s m below meth c A Q hx hb hml hts hown hK hA hret ls hl hP hD hS
  have hiX3 : ∀ w ∈ u_ws RX3 TX3 24, w ∈ wsX3_has := by decide +kernel
  have hown : s.vm.findClass RX3 = some m.cls := hown
  have hl : lv_has ls 2 [(0, .ref (am 0)), (1, .int p0)] := hl
  unfold wp_X3_has at hw
  refine lv_iload_n hx hb dX3_has_0 rfl (lv_at hl 1 rfl) ?_
  refine lv_if_lt (tgt := 25) hx hb dX3_has_1 (by decide) (fun c1 => ?_) (fun c1 => ?_)
  · have hw := brN.t hw c1
    refine lv_iconst (v := 0) hx hb dX3_has_25 (by decide) ?_
    exact hret 0 u 26 _ _ _ dX3_has_26 rfl ⟨isB_0, hw⟩ hP hD hS
  · have hw := brN.f hw c1
    refine lv_iload_n hx hb dX3_has_4 rfl (lv_at hl 1 rfl) ?_
    refine lv_aload_n hx hb dX3_has_5 rfl (lv_at hl 0 rfl) ?_
    refine va_get (D := G) (ci := 3) (v := .int (u 2 0)) (C := RX3) (T := TX3) (N := 24) hx hb hts hiX3 hown hK hP 0 rfl rfl 2 (by decide) (hts (.fieldLink RX3 48 "TreapVersionsModel" "versions" "I") (by decide +kernel)) (fun _ h9 => h9) rfl dX3_has_6 ?_
    refine lv_topi (fun z2 ez2 => ?_)
    have hw := nmI.go hw z2 ez2
    refine lv_icmp_ge (tgt := 25) hx hb dX3_has_9 (by decide) (fun c3 => ?_) (fun c3 => ?_)
    · have hw := brN.t hw c3
      refine lv_iconst (v := 0) hx hb dX3_has_25 (by decide) ?_
      exact hret 0 u 26 _ _ _ dX3_has_26 rfl ⟨isB_0, hw⟩ hP hD hS
    · have hw := brN.f hw c3
      refine lv_aload_n hx hb dX3_has_12 rfl (lv_at hl 0 rfl) ?_
      refine va_get (D := G) (ci := 3) (v := .ref (am 9)) (C := RX3) (T := TX3) (N := 24) hx hb hts hiX3 hown hK hP 0 rfl rfl 15 (by decide) (hts (.fieldLink RX3 35 "TreapVersionsModel" "isLive" "[Z") (by decide +kernel)) (fun _ h9 => h9) rfl dX3_has_13 ?_
      refine lv_iload_n hx hb dX3_has_16 rfl (lv_at hl 1 rfl) ?_
      refine va_zald hx hb hK hP 9 1 rfl rfl (rdA.hin hw) dX3_has_17 ?_
      refine lv_topi (fun z4 ez4 => ?_)
      have hw := rdA.go hw z4 ez4
      refine lv_if_eq (tgt := 25) hx hb dX3_has_18 (by decide) (fun c5 => ?_) (fun c5 => ?_)
      · have hw := brN.t hw c5
        refine lv_iconst (v := 0) hx hb dX3_has_25 (by decide) ?_
        exact hret 0 u 26 _ _ _ dX3_has_26 rfl ⟨isB_0, hw⟩ hP hD hS
      · have hw := brN.f hw c5
        refine lv_iconst (v := 1) hx hb dX3_has_21 (by decide) ?_
        refine lv_goto (tgt := 26) hx hb dX3_has_22 (by decide) ?_
        exact hret 1 u 26 _ _ _ dX3_has_26 rfl ⟨isB_1, hw⟩ hP hD hS
set_option maxHeartbeats 4000000 in
set_option maxRecDepth 100000 in
theorem c_X3_markL (l : Launch) (G : va_G) (am : Nat → Nat) (cI cZ : ClassId) (p0 : Int32) (u : CS) (post : Int32 → CS → Prop) (hw : wp_X3_mark 11 p0 u post) : CtI l yX3_mark wsX3_mark ({ frames := 0, cells := 0, slots := 0, locals := 0 }) G (ty2 cI cZ) (mw am cI cZ) [.ref (am 0), .int p0, .ref (am 6)] u post := by
  refine CtI.of (cc := cX3_mark) (maxL := 5) (rt := .int) (by decide) rfl (Nat.le_of_ble_eq_true rfl) ?_
  intro p e s m below meth c A Q hx hb hml hts hown hK hA hret ls hl hP hD hS
  have hiX3 : ∀ w ∈ u_ws RX3 TX3 24, w ∈ wsX3_mark := by decide +kernel
  have hown : s.vm.findClass RX3 = some m.cls := hown
  have hl : lv_has ls 5 [(0, .ref (am 0)), (1, .int p0), (2, .ref (am 6))] := hl
  have hlp23 : ∀ (n : Nat) (a3 : Int32) (u : CS), lp_X3_mark_23 11 post n a3 u → ∀ (H : Heap) (locs : List Loc), va_P G vwCl (mw am cI cZ u) H → va_D A (mw am cI cZ u) → va_S A s.heap H locs → ∀ ls : Array Slot, lv_has ls 5 [(0, .ref (am 0)), (2, .ref (am 6)), (3, .int a3)] → W p l e ({ frames := 0, cells := 0, slots := 0, locals := 0 }) s m ([.ref (am 0), .int p0, .ref (am 6)] : List Value).toArray below meth c H locs 0 0 Q (F0 m 23 ls []) := by
    clear hw hl hP hD hS
    intro n
    induction n with
    | zero => intro a3 u hw; exact False.elim hw
    | succ n ih =>
      intro a3 u hw H locs hP hD hS ls hl
      unfold lp_X3_mark_23 at hw
      refine lv_aload_n hx hb dX3_mark_23 rfl (lv_at hl 0 rfl) ?_
      refine va_get (D := G) (ci := 3) (v := .int (u 14 0)) (C := RX3) (T := TX3) (N := 24) hx hb hts hiX3 hown hK hP 0 rfl rfl 14 (by decide) (hts (.fieldLink RX3 57 "TreapVersionsModel" "top" "I") (by decide +kernel)) (fun _ h9 => h9) rfl dX3_mark_24 ?_
      refine lv_topi (fun z3 ez3 => ?_)
      have hw := nmI.go hw z3 ez3
      refine lv_if_le (tgt := 141) hx hb dX3_mark_27 (by decide) (fun c4 => ?_) (fun c4 => ?_)
      · have hw := brN.t hw c4
        refine lv_iload_n hx hb dX3_mark_141 rfl (lv_at hl 2 rfl) ?_
        exact hret a3 u 142 _ _ _ dX3_mark_142 rfl hw hP hD hS
      · have hw := brN.f hw c4
        refine lv_aload_n hx hb dX3_mark_30 rfl (lv_at hl 0 rfl) ?_
        refine lv_dup hx hb dX3_mark_31 rfl ?_
        refine va_get (D := G) (ci := 3) (v := .int (u 14 0)) (C := RX3) (T := TX3) (N := 24) hx hb hts hiX3 hown hK hP 0 rfl rfl 14 (by decide) (hts (.fieldLink RX3 57 "TreapVersionsModel" "top" "I") (by decide +kernel)) (fun _ h9 => h9) rfl dX3_mark_32 ?_
        refine lv_topi (fun z5 ez5 => ?_)
        have hw := nmI.go hw z5 ez5
        refine lv_iconst (v := 1) hx hb dX3_mark_35 (by decide) ?_
        refine lv_isub hx hb dX3_mark_36 ?_
        refine lv_topi (fun z6 ez6 => ?_)
        have hw := nmI.go hw z6 ez6
        refine va_put (D := G) (ci := 3) (v := .int z6) (ty := .int) (C := RX3) (T := TX3) (N := 24) hx hb hts hiX3 tyX3 tyX3_ok nmX3 hown hK hP hD hS 0 rfl rfl 14 (by decide) (hts (.fieldLink RX3 57 "TreapVersionsModel" "top" "I") (by decide +kernel)) (fun _ h9 => h9) rfl (by decide +kernel) rfl rfl (Nat.le_of_ble_eq_true rfl) dX3_mark_37 (fun H locs hP hD hS => ?_)
        obtain ⟨u7, eu7⟩ : ∃ z : CS, z = cset u 14 (fun _ => z6) := ⟨_, rfl⟩
        have hP : va_P G vwCl (mw am cI cZ (cset u 14 (fun _ => z6))) H := hP
        have hD : va_D A (mw am cI cZ (cset u 14 (fun _ => z6))) := hD
        rw [← eu7] at hP hD
        have hw := stF.go hw u7 eu7
        refine lv_aload_n hx hb dX3_mark_40 rfl (lv_at hl 0 rfl) ?_
        refine va_get (D := G) (ci := 3) (v := .ref (am 8)) (C := RX3) (T := TX3) (N := 24) hx hb hts hiX3 hown hK hP 0 rfl rfl 13 (by decide) (hts (.fieldLink RX3 32 "TreapVersionsModel" "stack" "[I") (by decide +kernel)) (fun _ h9 => h9) rfl dX3_mark_41 ?_
        refine lv_aload_n hx hb dX3_mark_44 rfl (lv_at hl 0 rfl) ?_
        refine va_get (D := G) (ci := 3) (v := .int (u7 14 0)) (C := RX3) (T := TX3) (N := 24) hx hb hts hiX3 hown hK hP 0 rfl rfl 14 (by decide) (hts (.fieldLink RX3 57 "TreapVersionsModel" "top" "I") (by decide +kernel)) (fun _ h9 => h9) rfl dX3_mark_45 ?_
        refine lv_topi (fun z8 ez8 => ?_)
        have hw := nmI.go hw z8 ez8
        refine va_iald hx hb hK hP 8 0 rfl rfl (rdA.hin hw) dX3_mark_48 ?_
        refine lv_topi (fun z9 ez9 => ?_)
        have hw := rdA.go hw z9 ez9
        refine lv_istore (lv' := [(4, .int z9), (0, .ref (am 0)), (2, .ref (am 6)), (3, .int a3)]) hx hb dX3_mark_49 hl (by decide) rfl (fun ls hl => ?_)
        refine lv_aload_n hx hb dX3_mark_51 rfl (lv_at hl 2 rfl) ?_
        refine lv_iload hx hb dX3_mark_52 (lv_at hl 0 rfl) ?_
        refine va_zald hx hb hK hP 6 1 rfl rfl (rdA.hin hw) dX3_mark_54 ?_
        refine lv_topi (fun z10 ez10 => ?_)
        have hw := rdA.go hw z10 ez10
        refine lv_if_ne (tgt := 138) hx hb dX3_mark_55 (by decide) (fun c11 => ?_) (fun c11 => ?_)
        · have hw := brN.f hw c11
          refine lv_goto (tgt := 23) hx hb dX3_mark_138 (by decide) ?_
          exact ih a3 u7 hw _ _ hP hD hS _ (lv_sub hl [1, 2, 3] rfl)
        · have hw := brN.t hw c11
          refine lv_aload_n hx hb dX3_mark_58 rfl (lv_at hl 2 rfl) ?_
          refine lv_iload hx hb dX3_mark_59 (lv_at hl 0 rfl) ?_
          refine lv_iconst (v := 1) hx hb dX3_mark_61 (by decide) ?_
          refine va_zast hx hb hK hP hD hS 6 1 rfl rfl (wrZ.hin hw) dX3_mark_62 (fun H locs hP hD hS => ?_)
          obtain ⟨u12, eu12⟩ : ∃ z : CS, z = cset u7 11 (upd (u7 11) z9.toNatClampNeg (vp_nar .boolean 1)) := ⟨_, rfl⟩
          have hP : va_P G vwCl (mw am cI cZ (cset u7 11 (upd (u7 11) z9.toNatClampNeg (vp_nar .boolean 1)))) H := hP
          have hD : va_D A (mw am cI cZ (cset u7 11 (upd (u7 11) z9.toNatClampNeg (vp_nar .boolean 1)))) := hD
          rw [← eu12] at hP hD
          have hw := wrZ.go hw u12 eu12
          obtain ⟨z13, ez13⟩ : ∃ y : Int32, y = a3 + 1 := ⟨_, rfl⟩
          have hw := nmI.go hw z13 ez13
          refine lv_iinc (v := z13) (lv' := [(3, .int z13), (4, .int z9), (0, .ref (am 0)), (2, .ref (am 6))]) hx hb dX3_mark_63 hl (k := 3) rfl (by rw [ez13]; rfl) (by decide) rfl (fun ls hl => ?_)
          refine lv_aload_n hx hb dX3_mark_66 rfl (lv_at hl 2 rfl) ?_
          refine va_get (D := G) (ci := 3) (v := .ref (am 4)) (C := RX3) (T := TX3) (N := 24) hx hb hts hiX3 hown hK hP 0 rfl rfl 9 (by decide) (hts (.fieldLink RX3 19 "TreapVersionsModel" "left" "[I") (by decide +kernel)) (fun _ h9 => h9) rfl dX3_mark_67 ?_
          refine lv_iload hx hb dX3_mark_70 (lv_at hl 1 rfl) ?_
          refine va_iald hx hb hK hP 4 0 rfl rfl (rdA.hin hw) dX3_mark_72 ?_
          refine lv_topi (fun z14 ez14 => ?_)
          have hw := rdA.go hw z14 ez14
          refine lv_if_lt (tgt := 102) hx hb dX3_mark_73 (by decide) (fun c15 => ?_) (fun c15 => ?_)
          · have hw := brN.t hw c15
            refine lv_aload_n hx hb dX3_mark_102 rfl (lv_at hl 2 rfl) ?_
            refine va_get (D := G) (ci := 3) (v := .ref (am 5)) (C := RX3) (T := TX3) (N := 24) hx hb hts hiX3 hown hK hP 0 rfl rfl 10 (by decide) (hts (.fieldLink RX3 22 "TreapVersionsModel" "right" "[I") (by decide +kernel)) (fun _ h9 => h9) rfl dX3_mark_103 ?_
            refine lv_iload hx hb dX3_mark_106 (lv_at hl 1 rfl) ?_
            refine va_iald hx hb hK hP 5 0 rfl rfl (rdA.hin hw) dX3_mark_108 ?_
            refine lv_topi (fun z16 ez16 => ?_)
            have hw := rdA.go hw z16 ez16
            refine lv_if_lt (tgt := 138) hx hb dX3_mark_109 (by decide) (fun c17 => ?_) (fun c17 => ?_)
            · have hw := brN.t hw c17
              refine lv_goto (tgt := 23) hx hb dX3_mark_138 (by decide) ?_
              exact ih z13 u12 hw _ _ hP hD hS _ (lv_sub hl [2, 3, 0] rfl)
            · have hw := brN.f hw c17
              refine lv_aload_n hx hb dX3_mark_112 rfl (lv_at hl 2 rfl) ?_
              refine va_get (D := G) (ci := 3) (v := .ref (am 8)) (C := RX3) (T := TX3) (N := 24) hx hb hts hiX3 hown hK hP 0 rfl rfl 13 (by decide) (hts (.fieldLink RX3 32 "TreapVersionsModel" "stack" "[I") (by decide +kernel)) (fun _ h9 => h9) rfl dX3_mark_113 ?_
              refine lv_aload_n hx hb dX3_mark_116 rfl (lv_at hl 2 rfl) ?_
              refine va_get (D := G) (ci := 3) (v := .int (u12 14 0)) (C := RX3) (T := TX3) (N := 24) hx hb hts hiX3 hown hK hP 0 rfl rfl 14 (by decide) (hts (.fieldLink RX3 57 "TreapVersionsModel" "top" "I") (by decide +kernel)) (fun _ h9 => h9) rfl dX3_mark_117 ?_
              refine lv_topi (fun z18 ez18 => ?_)
              have hw := nmI.go hw z18 ez18
              refine lv_aload_n hx hb dX3_mark_120 rfl (lv_at hl 2 rfl) ?_
              refine va_get (D := G) (ci := 3) (v := .ref (am 5)) (C := RX3) (T := TX3) (N := 24) hx hb hts hiX3 hown hK hP 0 rfl rfl 10 (by decide) (hts (.fieldLink RX3 22 "TreapVersionsModel" "right" "[I") (by decide +kernel)) (fun _ h9 => h9) rfl dX3_mark_121 ?_
              refine lv_iload hx hb dX3_mark_124 (lv_at hl 1 rfl) ?_
              refine va_iald hx hb hK hP 5 0 rfl rfl (rdA.hin hw) dX3_mark_126 ?_
              refine lv_topi (fun z19 ez19 => ?_)
              have hw := rdA.go hw z19 ez19
              refine va_iast hx hb hK hP hD hS 8 0 rfl rfl (wrA.hin hw) dX3_mark_127 (fun H locs hP hD hS => ?_)
              obtain ⟨u20, eu20⟩ : ∃ z : CS, z = cset u12 13 (upd (u12 13) z18.toNatClampNeg z19) := ⟨_, rfl⟩
              have hP : va_P G vwCl (mw am cI cZ (cset u12 13 (upd (u12 13) z18.toNatClampNeg z19))) H := hP
              have hD : va_D A (mw am cI cZ (cset u12 13 (upd (u12 13) z18.toNatClampNeg z19))) := hD
              rw [← eu20] at hP hD
              have hw := wrA.go hw u20 eu20
              refine lv_aload_n hx hb dX3_mark_128 rfl (lv_at hl 2 rfl) ?_
              refine lv_dup hx hb dX3_mark_129 rfl ?_
              refine va_get (D := G) (ci := 3) (v := .int (u20 14 0)) (C := RX3) (T := TX3) (N := 24) hx hb hts hiX3 hown hK hP 0 rfl rfl 14 (by decide) (hts (.fieldLink RX3 57 "TreapVersionsModel" "top" "I") (by decide +kernel)) (fun _ h9 => h9) rfl dX3_mark_130 ?_
              refine lv_topi (fun z21 ez21 => ?_)
              have hw := nmI.go hw z21 ez21
              refine lv_iconst (v := 1) hx hb dX3_mark_133 (by decide) ?_
              refine lv_iadd hx hb dX3_mark_134 ?_
              refine lv_topi (fun z22 ez22 => ?_)
              have hw := nmI.go hw z22 ez22
              refine va_put (D := G) (ci := 3) (v := .int z22) (ty := .int) (C := RX3) (T := TX3) (N := 24) hx hb hts hiX3 tyX3 tyX3_ok nmX3 hown hK hP hD hS 0 rfl rfl 14 (by decide) (hts (.fieldLink RX3 57 "TreapVersionsModel" "top" "I") (by decide +kernel)) (fun _ h9 => h9) rfl (by decide +kernel) rfl rfl (Nat.le_of_ble_eq_true rfl) dX3_mark_135 (fun H locs hP hD hS => ?_)
              obtain ⟨u23, eu23⟩ : ∃ z : CS, z = cset u20 14 (fun _ => z22) := ⟨_, rfl⟩
              have hP : va_P G vwCl (mw am cI cZ (cset u20 14 (fun _ => z22))) H := hP
              have hD : va_D A (mw am cI cZ (cset u20 14 (fun _ => z22))) := hD
              rw [← eu23] at hP hD
              have hw := stF.go hw u23 eu23
              refine lv_goto (tgt := 23) hx hb dX3_mark_138 (by decide) ?_
              exact ih z13 u23 hw _ _ hP hD hS _ (lv_sub hl [2, 3, 0] rfl)
          · have hw := brN.f hw c15
            refine lv_aload_n hx hb dX3_mark_76 rfl (lv_at hl 2 rfl) ?_
            refine va_get (D := G) (ci := 3) (v := .ref (am 8)) (C := RX3) (T := TX3) (N := 24) hx hb hts hiX3 hown hK hP 0 rfl rfl 13 (by decide) (hts (.fieldLink RX3 32 "TreapVersionsModel" "stack" "[I") (by decide +kernel)) (fun _ h9 => h9) rfl dX3_mark_77 ?_
            refine lv_aload_n hx hb dX3_mark_80 rfl (lv_at hl 2 rfl) ?_
            refine va_get (D := G) (ci := 3) (v := .int (u12 14 0)) (C := RX3) (T := TX3) (N := 24) hx hb hts hiX3 hown hK hP 0 rfl rfl 14 (by decide) (hts (.fieldLink RX3 57 "TreapVersionsModel" "top" "I") (by decide +kernel)) (fun _ h9 => h9) rfl dX3_mark_81 ?_
            refine lv_topi (fun z24 ez24 => ?_)
            have hw := nmI.go hw z24 ez24
            refine lv_aload_n hx hb dX3_mark_84 rfl (lv_at hl 2 rfl) ?_
            refine va_get (D := G) (ci := 3) (v := .ref (am 4)) (C := RX3) (T := TX3) (N := 24) hx hb hts hiX3 hown hK hP 0 rfl rfl 9 (by decide) (hts (.fieldLink RX3 19 "TreapVersionsModel" "left" "[I") (by decide +kernel)) (fun _ h9 => h9) rfl dX3_mark_85 ?_
            refine lv_iload hx hb dX3_mark_88 (lv_at hl 1 rfl) ?_
            refine va_iald hx hb hK hP 4 0 rfl rfl (rdA.hin hw) dX3_mark_90 ?_
            refine lv_topi (fun z25 ez25 => ?_)
            have hw := rdA.go hw z25 ez25
            refine va_iast hx hb hK hP hD hS 8 0 rfl rfl (wrA.hin hw) dX3_mark_91 (fun H locs hP hD hS => ?_)
            obtain ⟨u26, eu26⟩ : ∃ z : CS, z = cset u12 13 (upd (u12 13) z24.toNatClampNeg z25) := ⟨_, rfl⟩
            have hP : va_P G vwCl (mw am cI cZ (cset u12 13 (upd (u12 13) z24.toNatClampNeg z25))) H := hP
            have hD : va_D A (mw am cI cZ (cset u12 13 (upd (u12 13) z24.toNatClampNeg z25))) := hD
            rw [← eu26] at hP hD
            have hw := wrA.go hw u26 eu26
            refine lv_aload_n hx hb dX3_mark_92 rfl (lv_at hl 2 rfl) ?_
            refine lv_dup hx hb dX3_mark_93 rfl ?_
            refine va_get (D := G) (ci := 3) (v := .int (u26 14 0)) (C := RX3) (T := TX3) (N := 24) hx hb hts hiX3 hown hK hP 0 rfl rfl 14 (by decide) (hts (.fieldLink RX3 57 "TreapVersionsModel" "top" "I") (by decide +kernel)) (fun _ h9 => h9) rfl dX3_mark_94 ?_
            refine lv_topi (fun z27 ez27 => ?_)
            have hw := nmI.go hw z27 ez27
            refine lv_iconst (v := 1) hx hb dX3_mark_97 (by decide) ?_
            refine lv_iadd hx hb dX3_mark_98 ?_
            refine lv_topi (fun z28 ez28 => ?_)
            have hw := nmI.go hw z28 ez28
            refine va_put (D := G) (ci := 3) (v := .int z28) (ty := .int) (C := RX3) (T := TX3) (N := 24) hx hb hts hiX3 tyX3 tyX3_ok nmX3 hown hK hP hD hS 0 rfl rfl 14 (by decide) (hts (.fieldLink RX3 57 "TreapVersionsModel" "top" "I") (by decide +kernel)) (fun _ h9 => h9) rfl (by decide +kernel) rfl rfl (Nat.le_of_ble_eq_true rfl) dX3_mark_99 (fun H locs hP hD hS => ?_)
            obtain ⟨u29, eu29⟩ : ∃ z : CS, z = cset u26 14 (fun _ => z28) := ⟨_, rfl⟩
            have hP : va_P G vwCl (mw am cI cZ (cset u26 14 (fun _ => z28))) H := hP
            have hD : va_D A (mw am cI cZ (cset u26 14 (fun _ => z28))) := hD
            rw [← eu29] at hP hD
            have hw := stF.go hw u29 eu29
            refine lv_aload_n hx hb dX3_mark_102 rfl (lv_at hl 2 rfl) ?_
            refine va_get (D := G) (ci := 3) (v := .ref (am 5)) (C := RX3) (T := TX3) (N := 24) hx hb hts hiX3 hown hK hP 0 rfl rfl 10 (by decide) (hts (.fieldLink RX3 22 "TreapVersionsModel" "right" "[I") (by decide +kernel)) (fun _ h9 => h9) rfl dX3_mark_103 ?_
            refine lv_iload hx hb dX3_mark_106 (lv_at hl 1 rfl) ?_
            refine va_iald hx hb hK hP 5 0 rfl rfl (rdA.hin hw) dX3_mark_108 ?_
            refine lv_topi (fun z30 ez30 => ?_)
            have hw := rdA.go hw z30 ez30
            refine lv_if_lt (tgt := 138) hx hb dX3_mark_109 (by decide) (fun c31 => ?_) (fun c31 => ?_)
            · have hw := brN.t hw c31
              refine lv_goto (tgt := 23) hx hb dX3_mark_138 (by decide) ?_
              exact ih z13 u29 hw _ _ hP hD hS _ (lv_sub hl [2, 3, 0] rfl)
            · have hw := brN.f hw c31
              refine lv_aload_n hx hb dX3_mark_112 rfl (lv_at hl 2 rfl) ?_
              refine va_get (D := G) (ci := 3) (v := .ref (am 8)) (C := RX3) (T := TX3) (N := 24) hx hb hts hiX3 hown hK hP 0 rfl rfl 13 (by decide) (hts (.fieldLink RX3 32 "TreapVersionsModel" "stack" "[I") (by decide +kernel)) (fun _ h9 => h9) rfl dX3_mark_113 ?_
              refine lv_aload_n hx hb dX3_mark_116 rfl (lv_at hl 2 rfl) ?_
              refine va_get (D := G) (ci := 3) (v := .int (u29 14 0)) (C := RX3) (T := TX3) (N := 24) hx hb hts hiX3 hown hK hP 0 rfl rfl 14 (by decide) (hts (.fieldLink RX3 57 "TreapVersionsModel" "top" "I") (by decide +kernel)) (fun _ h9 => h9) rfl dX3_mark_117 ?_
              refine lv_topi (fun z32 ez32 => ?_)
              have hw := nmI.go hw z32 ez32
              refine lv_aload_n hx hb dX3_mark_120 rfl (lv_at hl 2 rfl) ?_
              refine va_get (D := G) (ci := 3) (v := .ref (am 5)) (C := RX3) (T := TX3) (N := 24) hx hb hts hiX3 hown hK hP 0 rfl rfl 10 (by decide) (hts (.fieldLink RX3 22 "TreapVersionsModel" "right" "[I") (by decide +kernel)) (fun _ h9 => h9) rfl dX3_mark_121 ?_
              refine lv_iload hx hb dX3_mark_124 (lv_at hl 1 rfl) ?_
              refine va_iald hx hb hK hP 5 0 rfl rfl (rdA.hin hw) dX3_mark_126 ?_
              refine lv_topi (fun z33 ez33 => ?_)
              have hw := rdA.go hw z33 ez33
              refine va_iast hx hb hK hP hD hS 8 0 rfl rfl (wrA.hin hw) dX3_mark_127 (fun H locs hP hD hS => ?_)
              obtain ⟨u34, eu34⟩ : ∃ z : CS, z = cset u29 13 (upd (u29 13) z32.toNatClampNeg z33) := ⟨_, rfl⟩
              have hP : va_P G vwCl (mw am cI cZ (cset u29 13 (upd (u29 13) z32.toNatClampNeg z33))) H := hP
              have hD : va_D A (mw am cI cZ (cset u29 13 (upd (u29 13) z32.toNatClampNeg z33))) := hD
              rw [← eu34] at hP hD
              have hw := wrA.go hw u34 eu34
              refine lv_aload_n hx hb dX3_mark_128 rfl (lv_at hl 2 rfl) ?_
              refine lv_dup hx hb dX3_mark_129 rfl ?_
              refine va_get (D := G) (ci := 3) (v := .int (u34 14 0)) (C := RX3) (T := TX3) (N := 24) hx hb hts hiX3 hown hK hP 0 rfl rfl 14 (by decide) (hts (.fieldLink RX3 57 "TreapVersionsModel" "top" "I") (by decide +kernel)) (fun _ h9 => h9) rfl dX3_mark_130 ?_
              refine lv_topi (fun z35 ez35 => ?_)
              have hw := nmI.go hw z35 ez35
              refine lv_iconst (v := 1) hx hb dX3_mark_133 (by decide) ?_
              refine lv_iadd hx hb dX3_mark_134 ?_
              refine lv_topi (fun z36 ez36 => ?_)
              have hw := nmI.go hw z36 ez36
              refine va_put (D := G) (ci := 3) (v := .int z36) (ty := .int) (C := RX3) (T := TX3) (N := 24) hx hb hts hiX3 tyX3 tyX3_ok nmX3 hown hK hP hD hS 0 rfl rfl 14 (by decide) (hts (.fieldLink RX3 57 "TreapVersionsModel" "top" "I") (by decide +kernel)) (fun _ h9 => h9) rfl (by decide +kernel) rfl rfl (Nat.le_of_ble_eq_true rfl) dX3_mark_135 (fun H locs hP hD hS => ?_)
              obtain ⟨u37, eu37⟩ : ∃ z : CS, z = cset u34 14 (fun _ => z36) := ⟨_, rfl⟩
              have hP : va_P G vwCl (mw am cI cZ (cset u34 14 (fun _ => z36))) H := hP
              have hD : va_D A (mw am cI cZ (cset u34 14 (fun _ => z36))) := hD
              rw [← eu37] at hP hD
              have hw := stF.go hw u37 eu37
              refine lv_goto (tgt := 23) hx hb dX3_mark_138 (by decide) ?_
              exact ih z13 u37 hw _ _ hP hD hS _ (lv_sub hl [2, 3, 0] rfl)
  unfold wp_X3_mark at hw
  refine lv_iconst (v := 0) hx hb dX3_mark_0 (by decide) ?_
  refine lv_istore_n (lv' := [(3, .int 0), (0, .ref (am 0)), (1, .int p0), (2, .ref (am 6))]) hx hb dX3_mark_1 rfl hl (by decide) rfl (fun ls hl => ?_)
  refine lv_aload_n hx hb dX3_mark_2 rfl (lv_at hl 1 rfl) ?_
  refine lv_iconst (v := 0) hx hb dX3_mark_3 (by decide) ?_
  refine va_put (D := G) (ci := 3) (v := .int 0) (ty := .int) (C := RX3) (T := TX3) (N := 24) hx hb hts hiX3 tyX3 tyX3_ok nmX3 hown hK hP hD hS 0 rfl rfl 14 (by decide) (hts (.fieldLink RX3 57 "TreapVersionsModel" "top" "I") (by decide +kernel)) (fun _ h9 => h9) rfl (by decide +kernel) rfl rfl (Nat.le_of_ble_eq_true rfl) dX3_mark_4 (fun H locs hP hD hS => ?_)
  obtain ⟨u1, eu1⟩ : ∃ z : CS, z = cset u 14 (fun _ => 0) := ⟨_, rfl⟩
  have hP : va_P G vwCl (mw am cI cZ (cset u 14 (fun _ => 0))) H := hP
  have hD : va_D A (mw am cI cZ (cset u 14 (fun _ => 0))) := hD
  rw [← eu1] at hP hD
  have hw := stF.go hw u1 eu1
  refine lv_iload_n hx hb dX3_mark_7 rfl (lv_at hl 2 rfl) ?_
  refine lv_if_lt (tgt := 23) hx hb dX3_mark_8 (by decide) (fun c2 => ?_) (fun c2 => ?_)
  · have hw := brN.t hw c2
    obtain ⟨n9, hw⟩ := hw
    exact hlp23 n9 0 u1 hw _ _ hP hD hS _ (lv_sub hl [1, 3, 0] rfl)
  · have hw := brN.f hw c2
    refine lv_aload_n hx hb dX3_mark_11 rfl (lv_at hl 1 rfl) ?_
    refine va_get (D := G) (ci := 3) (v := .ref (am 8)) (C := RX3) (T := TX3) (N := 24) hx hb hts hiX3 hown hK hP 0 rfl rfl 13 (by decide) (hts (.fieldLink RX3 32 "TreapVersionsModel" "stack" "[I") (by decide +kernel)) (fun _ h9 => h9) rfl dX3_mark_12 ?_
    refine lv_iconst (v := 0) hx hb dX3_mark_15 (by decide) ?_
    refine lv_iload_n hx hb dX3_mark_16 rfl (lv_at hl 2 rfl) ?_
    refine va_iast hx hb hK hP hD hS 8 0 rfl rfl (wrA.hin hw) dX3_mark_17 (fun H locs hP hD hS => ?_)
    obtain ⟨u38, eu38⟩ : ∃ z : CS, z = cset u1 13 (upd (u1 13) (Int32.toNatClampNeg 0) p0) := ⟨_, rfl⟩
    have hP : va_P G vwCl (mw am cI cZ (cset u1 13 (upd (u1 13) (Int32.toNatClampNeg 0) p0))) H := hP
    have hD : va_D A (mw am cI cZ (cset u1 13 (upd (u1 13) (Int32.toNatClampNeg 0) p0))) := hD
    rw [← eu38] at hP hD
    have hw := wrA.go hw u38 eu38
    refine lv_aload_n hx hb dX3_mark_18 rfl (lv_at hl 1 rfl) ?_
    refine lv_iconst (v := 1) hx hb dX3_mark_19 (by decide) ?_
    refine va_put (D := G) (ci := 3) (v := .int 1) (ty := .int) (C := RX3) (T := TX3) (N := 24) hx hb hts hiX3 tyX3 tyX3_ok nmX3 hown hK hP hD hS 0 rfl rfl 14 (by decide) (hts (.fieldLink RX3 57 "TreapVersionsModel" "top" "I") (by decide +kernel)) (fun _ h9 => h9) rfl (by decide +kernel) rfl rfl (Nat.le_of_ble_eq_true rfl) dX3_mark_20 (fun H locs hP hD hS => ?_)
    obtain ⟨u39, eu39⟩ : ∃ z : CS, z = cset u38 14 (fun _ => 1) := ⟨_, rfl⟩
    have hP : va_P G vwCl (mw am cI cZ (cset u38 14 (fun _ => 1))) H := hP
    have hD : va_D A (mw am cI cZ (cset u38 14 (fun _ => 1))) := hD
    rw [← eu39] at hP hD
    have hw := stF.go hw u39 eu39
    obtain ⟨n9, hw⟩ := hw
    exact hlp23 n9 0 u39 hw _ _ hP hD hS _ (lv_sub hl [1, 3, 0] rfl)
set_option maxHeartbeats 4000000 in
set_option maxRecDepth 100000 in
theorem c_X3_markO (l : Launch) (G : va_G) (am : Nat → Nat) (cI cZ : ClassId) (p0 : Int32) (u : CS) (post : Int32 → CS → Prop) (hw : wp_X3_mark 12 p0 u post) : CtI l yX3_mark wsX3_mark ({ frames := 0, cells := 0, slots := 0, locals := 0 }) G (ty2 cI cZ) (mw am cI cZ) [.ref (am 0), .int p0, .ref (am 7)] u post := by
  refine CtI.of (cc := cX3_mark) (maxL := 5) (rt := .int) (by decide) rfl (Nat.le_of_ble_eq_true rfl) ?_
  intro p e s m below meth c A Q hx hb hml hts hown hK hA hret ls hl hP hD hS
  have hiX3 : ∀ w ∈ u_ws RX3 TX3 24, w ∈ wsX3_mark := by decide +kernel
  have hown : s.vm.findClass RX3 = some m.cls := hown
  have hl : lv_has ls 5 [(0, .ref (am 0)), (1, .int p0), (2, .ref (am 7))] := hl
  have hlp23 : ∀ (n : Nat) (a3 : Int32) (u : CS), lp_X3_mark_23 12 post n a3 u → ∀ (H : Heap) (locs : List Loc), va_P G vwCl (mw am cI cZ u) H → va_D A (mw am cI cZ u) → va_S A s.heap H locs → ∀ ls : Array Slot, lv_has ls 5 [(0, .ref (am 0)), (2, .ref (am 7)), (3, .int a3)] → W p l e ({ frames := 0, cells := 0, slots := 0, locals := 0 }) s m ([.ref (am 0), .int p0, .ref (am 7)] : List Value).toArray below meth c H locs 0 0 Q (F0 m 23 ls []) := by
    clear hw hl hP hD hS
    intro n
    induction n with
    | zero => intro a3 u hw; exact False.elim hw
    | succ n ih =>
      intro a3 u hw H locs hP hD hS ls hl
      unfold lp_X3_mark_23 at hw
      refine lv_aload_n hx hb dX3_mark_23 rfl (lv_at hl 0 rfl) ?_
      refine va_get (D := G) (ci := 3) (v := .int (u 14 0)) (C := RX3) (T := TX3) (N := 24) hx hb hts hiX3 hown hK hP 0 rfl rfl 14 (by decide) (hts (.fieldLink RX3 57 "TreapVersionsModel" "top" "I") (by decide +kernel)) (fun _ h9 => h9) rfl dX3_mark_24 ?_
      refine lv_topi (fun z3 ez3 => ?_)
      have hw := nmI.go hw z3 ez3
      refine lv_if_le (tgt := 141) hx hb dX3_mark_27 (by decide) (fun c4 => ?_) (fun c4 => ?_)
      · have hw := brN.t hw c4
        refine lv_iload_n hx hb dX3_mark_141 rfl (lv_at hl 2 rfl) ?_
        exact hret a3 u 142 _ _ _ dX3_mark_142 rfl hw hP hD hS
      · have hw := brN.f hw c4
        refine lv_aload_n hx hb dX3_mark_30 rfl (lv_at hl 0 rfl) ?_
        refine lv_dup hx hb dX3_mark_31 rfl ?_
        refine va_get (D := G) (ci := 3) (v := .int (u 14 0)) (C := RX3) (T := TX3) (N := 24) hx hb hts hiX3 hown hK hP 0 rfl rfl 14 (by decide) (hts (.fieldLink RX3 57 "TreapVersionsModel" "top" "I") (by decide +kernel)) (fun _ h9 => h9) rfl dX3_mark_32 ?_
        refine lv_topi (fun z5 ez5 => ?_)
        have hw := nmI.go hw z5 ez5
        refine lv_iconst (v := 1) hx hb dX3_mark_35 (by decide) ?_
        refine lv_isub hx hb dX3_mark_36 ?_
        refine lv_topi (fun z6 ez6 => ?_)
        have hw := nmI.go hw z6 ez6
        refine va_put (D := G) (ci := 3) (v := .int z6) (ty := .int) (C := RX3) (T := TX3) (N := 24) hx hb hts hiX3 tyX3 tyX3_ok nmX3 hown hK hP hD hS 0 rfl rfl 14 (by decide) (hts (.fieldLink RX3 57 "TreapVersionsModel" "top" "I") (by decide +kernel)) (fun _ h9 => h9) rfl (by decide +kernel) rfl rfl (Nat.le_of_ble_eq_true rfl) dX3_mark_37 (fun H locs hP hD hS => ?_)
        obtain ⟨u7, eu7⟩ : ∃ z : CS, z = cset u 14 (fun _ => z6) := ⟨_, rfl⟩
        have hP : va_P G vwCl (mw am cI cZ (cset u 14 (fun _ => z6))) H := hP
        have hD : va_D A (mw am cI cZ (cset u 14 (fun _ => z6))) := hD
        rw [← eu7] at hP hD
        have hw := stF.go hw u7 eu7
        refine lv_aload_n hx hb dX3_mark_40 rfl (lv_at hl 0 rfl) ?_
        refine va_get (D := G) (ci := 3) (v := .ref (am 8)) (C := RX3) (T := TX3) (N := 24) hx hb hts hiX3 hown hK hP 0 rfl rfl 13 (by decide) (hts (.fieldLink RX3 32 "TreapVersionsModel" "stack" "[I") (by decide +kernel)) (fun _ h9 => h9) rfl dX3_mark_41 ?_
        refine lv_aload_n hx hb dX3_mark_44 rfl (lv_at hl 0 rfl) ?_
        refine va_get (D := G) (ci := 3) (v := .int (u7 14 0)) (C := RX3) (T := TX3) (N := 24) hx hb hts hiX3 hown hK hP 0 rfl rfl 14 (by decide) (hts (.fieldLink RX3 57 "TreapVersionsModel" "top" "I") (by decide +kernel)) (fun _ h9 => h9) rfl dX3_mark_45 ?_
        refine lv_topi (fun z8 ez8 => ?_)
        have hw := nmI.go hw z8 ez8
        refine va_iald hx hb hK hP 8 0 rfl rfl (rdA.hin hw) dX3_mark_48 ?_
        refine lv_topi (fun z9 ez9 => ?_)
        have hw := rdA.go hw z9 ez9
        refine lv_istore (lv' := [(4, .int z9), (0, .ref (am 0)), (2, .ref (am 7)), (3, .int a3)]) hx hb dX3_mark_49 hl (by decide) rfl (fun ls hl => ?_)
        refine lv_aload_n hx hb dX3_mark_51 rfl (lv_at hl 2 rfl) ?_
        refine lv_iload hx hb dX3_mark_52 (lv_at hl 0 rfl) ?_
        refine va_zald hx hb hK hP 7 1 rfl rfl (rdA.hin hw) dX3_mark_54 ?_
        refine lv_topi (fun z10 ez10 => ?_)
        have hw := rdA.go hw z10 ez10
        refine lv_if_ne (tgt := 138) hx hb dX3_mark_55 (by decide) (fun c11 => ?_) (fun c11 => ?_)
        · have hw := brN.f hw c11
          refine lv_goto (tgt := 23) hx hb dX3_mark_138 (by decide) ?_
          exact ih a3 u7 hw _ _ hP hD hS _ (lv_sub hl [1, 2, 3] rfl)
        · have hw := brN.t hw c11
          refine lv_aload_n hx hb dX3_mark_58 rfl (lv_at hl 2 rfl) ?_
          refine lv_iload hx hb dX3_mark_59 (lv_at hl 0 rfl) ?_
          refine lv_iconst (v := 1) hx hb dX3_mark_61 (by decide) ?_
          refine va_zast hx hb hK hP hD hS 7 1 rfl rfl (wrZ.hin hw) dX3_mark_62 (fun H locs hP hD hS => ?_)
          obtain ⟨u12, eu12⟩ : ∃ z : CS, z = cset u7 12 (upd (u7 12) z9.toNatClampNeg (vp_nar .boolean 1)) := ⟨_, rfl⟩
          have hP : va_P G vwCl (mw am cI cZ (cset u7 12 (upd (u7 12) z9.toNatClampNeg (vp_nar .boolean 1)))) H := hP
          have hD : va_D A (mw am cI cZ (cset u7 12 (upd (u7 12) z9.toNatClampNeg (vp_nar .boolean 1)))) := hD
          rw [← eu12] at hP hD
          have hw := wrZ.go hw u12 eu12
          obtain ⟨z13, ez13⟩ : ∃ y : Int32, y = a3 + 1 := ⟨_, rfl⟩
          have hw := nmI.go hw z13 ez13
          refine lv_iinc (v := z13) (lv' := [(3, .int z13), (4, .int z9), (0, .ref (am 0)), (2, .ref (am 7))]) hx hb dX3_mark_63 hl (k := 3) rfl (by rw [ez13]; rfl) (by decide) rfl (fun ls hl => ?_)
          refine lv_aload_n hx hb dX3_mark_66 rfl (lv_at hl 2 rfl) ?_
          refine va_get (D := G) (ci := 3) (v := .ref (am 4)) (C := RX3) (T := TX3) (N := 24) hx hb hts hiX3 hown hK hP 0 rfl rfl 9 (by decide) (hts (.fieldLink RX3 19 "TreapVersionsModel" "left" "[I") (by decide +kernel)) (fun _ h9 => h9) rfl dX3_mark_67 ?_
          refine lv_iload hx hb dX3_mark_70 (lv_at hl 1 rfl) ?_
          refine va_iald hx hb hK hP 4 0 rfl rfl (rdA.hin hw) dX3_mark_72 ?_
          refine lv_topi (fun z14 ez14 => ?_)
          have hw := rdA.go hw z14 ez14
          refine lv_if_lt (tgt := 102) hx hb dX3_mark_73 (by decide) (fun c15 => ?_) (fun c15 => ?_)
          · have hw := brN.t hw c15
            refine lv_aload_n hx hb dX3_mark_102 rfl (lv_at hl 2 rfl) ?_
            refine va_get (D := G) (ci := 3) (v := .ref (am 5)) (C := RX3) (T := TX3) (N := 24) hx hb hts hiX3 hown hK hP 0 rfl rfl 10 (by decide) (hts (.fieldLink RX3 22 "TreapVersionsModel" "right" "[I") (by decide +kernel)) (fun _ h9 => h9) rfl dX3_mark_103 ?_
            refine lv_iload hx hb dX3_mark_106 (lv_at hl 1 rfl) ?_
            refine va_iald hx hb hK hP 5 0 rfl rfl (rdA.hin hw) dX3_mark_108 ?_
            refine lv_topi (fun z16 ez16 => ?_)
            have hw := rdA.go hw z16 ez16
            refine lv_if_lt (tgt := 138) hx hb dX3_mark_109 (by decide) (fun c17 => ?_) (fun c17 => ?_)
            · have hw := brN.t hw c17
              refine lv_goto (tgt := 23) hx hb dX3_mark_138 (by decide) ?_
              exact ih z13 u12 hw _ _ hP hD hS _ (lv_sub hl [2, 3, 0] rfl)
            · have hw := brN.f hw c17
              refine lv_aload_n hx hb dX3_mark_112 rfl (lv_at hl 2 rfl) ?_
              refine va_get (D := G) (ci := 3) (v := .ref (am 8)) (C := RX3) (T := TX3) (N := 24) hx hb hts hiX3 hown hK hP 0 rfl rfl 13 (by decide) (hts (.fieldLink RX3 32 "TreapVersionsModel" "stack" "[I") (by decide +kernel)) (fun _ h9 => h9) rfl dX3_mark_113 ?_
              refine lv_aload_n hx hb dX3_mark_116 rfl (lv_at hl 2 rfl) ?_
              refine va_get (D := G) (ci := 3) (v := .int (u12 14 0)) (C := RX3) (T := TX3) (N := 24) hx hb hts hiX3 hown hK hP 0 rfl rfl 14 (by decide) (hts (.fieldLink RX3 57 "TreapVersionsModel" "top" "I") (by decide +kernel)) (fun _ h9 => h9) rfl dX3_mark_117 ?_
              refine lv_topi (fun z18 ez18 => ?_)
              have hw := nmI.go hw z18 ez18
              refine lv_aload_n hx hb dX3_mark_120 rfl (lv_at hl 2 rfl) ?_
              refine va_get (D := G) (ci := 3) (v := .ref (am 5)) (C := RX3) (T := TX3) (N := 24) hx hb hts hiX3 hown hK hP 0 rfl rfl 10 (by decide) (hts (.fieldLink RX3 22 "TreapVersionsModel" "right" "[I") (by decide +kernel)) (fun _ h9 => h9) rfl dX3_mark_121 ?_
              refine lv_iload hx hb dX3_mark_124 (lv_at hl 1 rfl) ?_
              refine va_iald hx hb hK hP 5 0 rfl rfl (rdA.hin hw) dX3_mark_126 ?_
              refine lv_topi (fun z19 ez19 => ?_)
              have hw := rdA.go hw z19 ez19
              refine va_iast hx hb hK hP hD hS 8 0 rfl rfl (wrA.hin hw) dX3_mark_127 (fun H locs hP hD hS => ?_)
              obtain ⟨u20, eu20⟩ : ∃ z : CS, z = cset u12 13 (upd (u12 13) z18.toNatClampNeg z19) := ⟨_, rfl⟩
              have hP : va_P G vwCl (mw am cI cZ (cset u12 13 (upd (u12 13) z18.toNatClampNeg z19))) H := hP
              have hD : va_D A (mw am cI cZ (cset u12 13 (upd (u12 13) z18.toNatClampNeg z19))) := hD
              rw [← eu20] at hP hD
              have hw := wrA.go hw u20 eu20
              refine lv_aload_n hx hb dX3_mark_128 rfl (lv_at hl 2 rfl) ?_
              refine lv_dup hx hb dX3_mark_129 rfl ?_
              refine va_get (D := G) (ci := 3) (v := .int (u20 14 0)) (C := RX3) (T := TX3) (N := 24) hx hb hts hiX3 hown hK hP 0 rfl rfl 14 (by decide) (hts (.fieldLink RX3 57 "TreapVersionsModel" "top" "I") (by decide +kernel)) (fun _ h9 => h9) rfl dX3_mark_130 ?_
              refine lv_topi (fun z21 ez21 => ?_)
              have hw := nmI.go hw z21 ez21
              refine lv_iconst (v := 1) hx hb dX3_mark_133 (by decide) ?_
              refine lv_iadd hx hb dX3_mark_134 ?_
              refine lv_topi (fun z22 ez22 => ?_)
              have hw := nmI.go hw z22 ez22
              refine va_put (D := G) (ci := 3) (v := .int z22) (ty := .int) (C := RX3) (T := TX3) (N := 24) hx hb hts hiX3 tyX3 tyX3_ok nmX3 hown hK hP hD hS 0 rfl rfl 14 (by decide) (hts (.fieldLink RX3 57 "TreapVersionsModel" "top" "I") (by decide +kernel)) (fun _ h9 => h9) rfl (by decide +kernel) rfl rfl (Nat.le_of_ble_eq_true rfl) dX3_mark_135 (fun H locs hP hD hS => ?_)
              obtain ⟨u23, eu23⟩ : ∃ z : CS, z = cset u20 14 (fun _ => z22) := ⟨_, rfl⟩
              have hP : va_P G vwCl (mw am cI cZ (cset u20 14 (fun _ => z22))) H := hP
              have hD : va_D A (mw am cI cZ (cset u20 14 (fun _ => z22))) := hD
              rw [← eu23] at hP hD
              have hw := stF.go hw u23 eu23
              refine lv_goto (tgt := 23) hx hb dX3_mark_138 (by decide) ?_
              exact ih z13 u23 hw _ _ hP hD hS _ (lv_sub hl [2, 3, 0] rfl)
          · have hw := brN.f hw c15
            refine lv_aload_n hx hb dX3_mark_76 rfl (lv_at hl 2 rfl) ?_
            refine va_get (D := G) (ci := 3) (v := .ref (am 8)) (C := RX3) (T := TX3) (N := 24) hx hb hts hiX3 hown hK hP 0 rfl rfl 13 (by decide) (hts (.fieldLink RX3 32 "TreapVersionsModel" "stack" "[I") (by decide +kernel)) (fun _ h9 => h9) rfl dX3_mark_77 ?_
            refine lv_aload_n hx hb dX3_mark_80 rfl (lv_at hl 2 rfl) ?_
            refine va_get (D := G) (ci := 3) (v := .int (u12 14 0)) (C := RX3) (T := TX3) (N := 24) hx hb hts hiX3 hown hK hP 0 rfl rfl 14 (by decide) (hts (.fieldLink RX3 57 "TreapVersionsModel" "top" "I") (by decide +kernel)) (fun _ h9 => h9) rfl dX3_mark_81 ?_
            refine lv_topi (fun z24 ez24 => ?_)
            have hw := nmI.go hw z24 ez24
            refine lv_aload_n hx hb dX3_mark_84 rfl (lv_at hl 2 rfl) ?_
            refine va_get (D := G) (ci := 3) (v := .ref (am 4)) (C := RX3) (T := TX3) (N := 24) hx hb hts hiX3 hown hK hP 0 rfl rfl 9 (by decide) (hts (.fieldLink RX3 19 "TreapVersionsModel" "left" "[I") (by decide +kernel)) (fun _ h9 => h9) rfl dX3_mark_85 ?_
            refine lv_iload hx hb dX3_mark_88 (lv_at hl 1 rfl) ?_
            refine va_iald hx hb hK hP 4 0 rfl rfl (rdA.hin hw) dX3_mark_90 ?_
            refine lv_topi (fun z25 ez25 => ?_)
            have hw := rdA.go hw z25 ez25
            refine va_iast hx hb hK hP hD hS 8 0 rfl rfl (wrA.hin hw) dX3_mark_91 (fun H locs hP hD hS => ?_)
            obtain ⟨u26, eu26⟩ : ∃ z : CS, z = cset u12 13 (upd (u12 13) z24.toNatClampNeg z25) := ⟨_, rfl⟩
            have hP : va_P G vwCl (mw am cI cZ (cset u12 13 (upd (u12 13) z24.toNatClampNeg z25))) H := hP
            have hD : va_D A (mw am cI cZ (cset u12 13 (upd (u12 13) z24.toNatClampNeg z25))) := hD
            rw [← eu26] at hP hD
            have hw := wrA.go hw u26 eu26
            refine lv_aload_n hx hb dX3_mark_92 rfl (lv_at hl 2 rfl) ?_
            refine lv_dup hx hb dX3_mark_93 rfl ?_
            refine va_get (D := G) (ci := 3) (v := .int (u26 14 0)) (C := RX3) (T := TX3) (N := 24) hx hb hts hiX3 hown hK hP 0 rfl rfl 14 (by decide) (hts (.fieldLink RX3 57 "TreapVersionsModel" "top" "I") (by decide +kernel)) (fun _ h9 => h9) rfl dX3_mark_94 ?_
            refine lv_topi (fun z27 ez27 => ?_)
            have hw := nmI.go hw z27 ez27
            refine lv_iconst (v := 1) hx hb dX3_mark_97 (by decide) ?_
            refine lv_iadd hx hb dX3_mark_98 ?_
            refine lv_topi (fun z28 ez28 => ?_)
            have hw := nmI.go hw z28 ez28
            refine va_put (D := G) (ci := 3) (v := .int z28) (ty := .int) (C := RX3) (T := TX3) (N := 24) hx hb hts hiX3 tyX3 tyX3_ok nmX3 hown hK hP hD hS 0 rfl rfl 14 (by decide) (hts (.fieldLink RX3 57 "TreapVersionsModel" "top" "I") (by decide +kernel)) (fun _ h9 => h9) rfl (by decide +kernel) rfl rfl (Nat.le_of_ble_eq_true rfl) dX3_mark_99 (fun H locs hP hD hS => ?_)
            obtain ⟨u29, eu29⟩ : ∃ z : CS, z = cset u26 14 (fun _ => z28) := ⟨_, rfl⟩
            have hP : va_P G vwCl (mw am cI cZ (cset u26 14 (fun _ => z28))) H := hP
            have hD : va_D A (mw am cI cZ (cset u26 14 (fun _ => z28))) := hD
            rw [← eu29] at hP hD
            have hw := stF.go hw u29 eu29
            refine lv_aload_n hx hb dX3_mark_102 rfl (lv_at hl 2 rfl) ?_
            refine va_get (D := G) (ci := 3) (v := .ref (am 5)) (C := RX3) (T := TX3) (N := 24) hx hb hts hiX3 hown hK hP 0 rfl rfl 10 (by decide) (hts (.fieldLink RX3 22 "TreapVersionsModel" "right" "[I") (by decide +kernel)) (fun _ h9 => h9) rfl dX3_mark_103 ?_
            refine lv_iload hx hb dX3_mark_106 (lv_at hl 1 rfl) ?_
            refine va_iald hx hb hK hP 5 0 rfl rfl (rdA.hin hw) dX3_mark_108 ?_
            refine lv_topi (fun z30 ez30 => ?_)
            have hw := rdA.go hw z30 ez30
            refine lv_if_lt (tgt := 138) hx hb dX3_mark_109 (by decide) (fun c31 => ?_) (fun c31 => ?_)
            · have hw := brN.t hw c31
              refine lv_goto (tgt := 23) hx hb dX3_mark_138 (by decide) ?_
              exact ih z13 u29 hw _ _ hP hD hS _ (lv_sub hl [2, 3, 0] rfl)
            · have hw := brN.f hw c31
              refine lv_aload_n hx hb dX3_mark_112 rfl (lv_at hl 2 rfl) ?_
              refine va_get (D := G) (ci := 3) (v := .ref (am 8)) (C := RX3) (T := TX3) (N := 24) hx hb hts hiX3 hown hK hP 0 rfl rfl 13 (by decide) (hts (.fieldLink RX3 32 "TreapVersionsModel" "stack" "[I") (by decide +kernel)) (fun _ h9 => h9) rfl dX3_mark_113 ?_
              refine lv_aload_n hx hb dX3_mark_116 rfl (lv_at hl 2 rfl) ?_
              refine va_get (D := G) (ci := 3) (v := .int (u29 14 0)) (C := RX3) (T := TX3) (N := 24) hx hb hts hiX3 hown hK hP 0 rfl rfl 14 (by decide) (hts (.fieldLink RX3 57 "TreapVersionsModel" "top" "I") (by decide +kernel)) (fun _ h9 => h9) rfl dX3_mark_117 ?_
              refine lv_topi (fun z32 ez32 => ?_)
              have hw := nmI.go hw z32 ez32
              refine lv_aload_n hx hb dX3_mark_120 rfl (lv_at hl 2 rfl) ?_
              refine va_get (D := G) (ci := 3) (v := .ref (am 5)) (C := RX3) (T := TX3) (N := 24) hx hb hts hiX3 hown hK hP 0 rfl rfl 10 (by decide) (hts (.fieldLink RX3 22 "TreapVersionsModel" "right" "[I") (by decide +kernel)) (fun _ h9 => h9) rfl dX3_mark_121 ?_
              refine lv_iload hx hb dX3_mark_124 (lv_at hl 1 rfl) ?_
              refine va_iald hx hb hK hP 5 0 rfl rfl (rdA.hin hw) dX3_mark_126 ?_
              refine lv_topi (fun z33 ez33 => ?_)
              have hw := rdA.go hw z33 ez33
              refine va_iast hx hb hK hP hD hS 8 0 rfl rfl (wrA.hin hw) dX3_mark_127 (fun H locs hP hD hS => ?_)
              obtain ⟨u34, eu34⟩ : ∃ z : CS, z = cset u29 13 (upd (u29 13) z32.toNatClampNeg z33) := ⟨_, rfl⟩
              have hP : va_P G vwCl (mw am cI cZ (cset u29 13 (upd (u29 13) z32.toNatClampNeg z33))) H := hP
              have hD : va_D A (mw am cI cZ (cset u29 13 (upd (u29 13) z32.toNatClampNeg z33))) := hD
              rw [← eu34] at hP hD
              have hw := wrA.go hw u34 eu34
              refine lv_aload_n hx hb dX3_mark_128 rfl (lv_at hl 2 rfl) ?_
              refine lv_dup hx hb dX3_mark_129 rfl ?_
              refine va_get (D := G) (ci := 3) (v := .int (u34 14 0)) (C := RX3) (T := TX3) (N := 24) hx hb hts hiX3 hown hK hP 0 rfl rfl 14 (by decide) (hts (.fieldLink RX3 57 "TreapVersionsModel" "top" "I") (by decide +kernel)) (fun _ h9 => h9) rfl dX3_mark_130 ?_
              refine lv_topi (fun z35 ez35 => ?_)
              have hw := nmI.go hw z35 ez35
              refine lv_iconst (v := 1) hx hb dX3_mark_133 (by decide) ?_
              refine lv_iadd hx hb dX3_mark_134 ?_
              refine lv_topi (fun z36 ez36 => ?_)
              have hw := nmI.go hw z36 ez36
              refine va_put (D := G) (ci := 3) (v := .int z36) (ty := .int) (C := RX3) (T := TX3) (N := 24) hx hb hts hiX3 tyX3 tyX3_ok nmX3 hown hK hP hD hS 0 rfl rfl 14 (by decide) (hts (.fieldLink RX3 57 "TreapVersionsModel" "top" "I") (by decide +kernel)) (fun _ h9 => h9) rfl (by decide +kernel) rfl rfl (Nat.le_of_ble_eq_true rfl) dX3_mark_135 (fun H locs hP hD hS => ?_)
              obtain ⟨u37, eu37⟩ : ∃ z : CS, z = cset u34 14 (fun _ => z36) := ⟨_, rfl⟩
              have hP : va_P G vwCl (mw am cI cZ (cset u34 14 (fun _ => z36))) H := hP
              have hD : va_D A (mw am cI cZ (cset u34 14 (fun _ => z36))) := hD
              rw [← eu37] at hP hD
              have hw := stF.go hw u37 eu37
              refine lv_goto (tgt := 23) hx hb dX3_mark_138 (by decide) ?_
              exact ih z13 u37 hw _ _ hP hD hS _ (lv_sub hl [2, 3, 0] rfl)
  unfold wp_X3_mark at hw
  refine lv_iconst (v := 0) hx hb dX3_mark_0 (by decide) ?_
  refine lv_istore_n (lv' := [(3, .int 0), (0, .ref (am 0)), (1, .int p0), (2, .ref (am 7))]) hx hb dX3_mark_1 rfl hl (by decide) rfl (fun ls hl => ?_)
  refine lv_aload_n hx hb dX3_mark_2 rfl (lv_at hl 1 rfl) ?_
  refine lv_iconst (v := 0) hx hb dX3_mark_3 (by decide) ?_
  refine va_put (D := G) (ci := 3) (v := .int 0) (ty := .int) (C := RX3) (T := TX3) (N := 24) hx hb hts hiX3 tyX3 tyX3_ok nmX3 hown hK hP hD hS 0 rfl rfl 14 (by decide) (hts (.fieldLink RX3 57 "TreapVersionsModel" "top" "I") (by decide +kernel)) (fun _ h9 => h9) rfl (by decide +kernel) rfl rfl (Nat.le_of_ble_eq_true rfl) dX3_mark_4 (fun H locs hP hD hS => ?_)
  obtain ⟨u1, eu1⟩ : ∃ z : CS, z = cset u 14 (fun _ => 0) := ⟨_, rfl⟩
  have hP : va_P G vwCl (mw am cI cZ (cset u 14 (fun _ => 0))) H := hP
  have hD : va_D A (mw am cI cZ (cset u 14 (fun _ => 0))) := hD
  rw [← eu1] at hP hD
  have hw := stF.go hw u1 eu1
  refine lv_iload_n hx hb dX3_mark_7 rfl (lv_at hl 2 rfl) ?_
  refine lv_if_lt (tgt := 23) hx hb dX3_mark_8 (by decide) (fun c2 => ?_) (fun c2 => ?_)
  · have hw := brN.t hw c2
    obtain ⟨n9, hw⟩ := hw
    exact hlp23 n9 0 u1 hw _ _ hP hD hS _ (lv_sub hl [1, 3, 0] rfl)
  · have hw := brN.f hw c2
    refine lv_aload_n hx hb dX3_mark_11 rfl (lv_at hl 1 rfl) ?_
    refine va_get (D := G) (ci := 3) (v := .ref (am 8)) (C := RX3) (T := TX3) (N := 24) hx hb hts hiX3 hown hK hP 0 rfl rfl 13 (by decide) (hts (.fieldLink RX3 32 "TreapVersionsModel" "stack" "[I") (by decide +kernel)) (fun _ h9 => h9) rfl dX3_mark_12 ?_
    refine lv_iconst (v := 0) hx hb dX3_mark_15 (by decide) ?_
    refine lv_iload_n hx hb dX3_mark_16 rfl (lv_at hl 2 rfl) ?_
    refine va_iast hx hb hK hP hD hS 8 0 rfl rfl (wrA.hin hw) dX3_mark_17 (fun H locs hP hD hS => ?_)
    obtain ⟨u38, eu38⟩ : ∃ z : CS, z = cset u1 13 (upd (u1 13) (Int32.toNatClampNeg 0) p0) := ⟨_, rfl⟩
    have hP : va_P G vwCl (mw am cI cZ (cset u1 13 (upd (u1 13) (Int32.toNatClampNeg 0) p0))) H := hP
    have hD : va_D A (mw am cI cZ (cset u1 13 (upd (u1 13) (Int32.toNatClampNeg 0) p0))) := hD
    rw [← eu38] at hP hD
    have hw := wrA.go hw u38 eu38
    refine lv_aload_n hx hb dX3_mark_18 rfl (lv_at hl 1 rfl) ?_
    refine lv_iconst (v := 1) hx hb dX3_mark_19 (by decide) ?_
    refine va_put (D := G) (ci := 3) (v := .int 1) (ty := .int) (C := RX3) (T := TX3) (N := 24) hx hb hts hiX3 tyX3 tyX3_ok nmX3 hown hK hP hD hS 0 rfl rfl 14 (by decide) (hts (.fieldLink RX3 57 "TreapVersionsModel" "top" "I") (by decide +kernel)) (fun _ h9 => h9) rfl (by decide +kernel) rfl rfl (Nat.le_of_ble_eq_true rfl) dX3_mark_20 (fun H locs hP hD hS => ?_)
    obtain ⟨u39, eu39⟩ : ∃ z : CS, z = cset u38 14 (fun _ => 1) := ⟨_, rfl⟩
    have hP : va_P G vwCl (mw am cI cZ (cset u38 14 (fun _ => 1))) H := hP
    have hD : va_D A (mw am cI cZ (cset u38 14 (fun _ => 1))) := hD
    rw [← eu39] at hP hD
    have hw := stF.go hw u39 eu39
    obtain ⟨n9, hw⟩ := hw
    exact hlp23 n9 0 u39 hw _ _ hP hD hS _ (lv_sub hl [1, 3, 0] rfl)
set_option maxHeartbeats 4000000 in
set_option maxRecDepth 100000 in
theorem c_X3_markAll (l : Launch) (G : va_G) (am : Nat → Nat) (cI cZ : ClassId) (u : CS) (post : Int32 → CS → Prop) (hw : wp_X3_markAll u post) : CtI l yX3_markAll wsX3_markAll ({ frames := 1, cells := 0, slots := 0, locals := 24 }) G (ty2 cI cZ) (mw am cI cZ) [.ref (am 0)] u post := by
  refine CtI.of (cc := cX3_markAll) (maxL := 3) (rt := .int) (by decide) rfl (Nat.le_of_ble_eq_true rfl) ?_
  intro p e s m below meth c A Q hx hb hml hts hown hK hA hret ls hl hP hD hS
  have hiX3 : ∀ w ∈ u_ws RX3 TX3 24, w ∈ wsX3_markAll := by decide +kernel
  have hown : s.vm.findClass RX3 = some m.cls := hown
  have hl : lv_has ls 3 [(0, .ref (am 0))] := hl
  have hlp26 : ∀ (n : Nat) (a1 : Int32) (a2 : Int32) (u : CS), lp_X3_markAll_26 post n a1 a2 u → ∀ (H : Heap) (locs : List Loc), va_P G vwCl (mw am cI cZ u) H → va_D A (mw am cI cZ u) → va_S A s.heap H locs → ∀ ls : Array Slot, lv_has ls 3 [(0, .ref (am 0)), (1, .int a1), (2, .int a2)] → W p l e ({ frames := 1, cells := 0, slots := 0, locals := 24 }) s m ([.ref (am 0)] : List Value).toArray below meth c H locs 0 0 Q (F0 m 26 ls []) := by
    clear hw hl hP hD hS
    intro n
    induction n with
    | zero => intro a1 a2 u hw; exact False.elim hw
    | succ n ih =>
      intro a1 a2 u hw H locs hP hD hS ls hl
      unfold lp_X3_markAll_26 at hw
      refine lv_iload_n hx hb dX3_markAll_26 rfl (lv_at hl 2 rfl) ?_
      refine lv_aload_n hx hb dX3_markAll_27 rfl (lv_at hl 0 rfl) ?_
      refine va_get (D := G) (ci := 3) (v := .int (u 2 0)) (C := RX3) (T := TX3) (N := 24) hx hb hts hiX3 hown hK hP 0 rfl rfl 2 (by decide) (hts (.fieldLink RX3 48 "TreapVersionsModel" "versions" "I") (by decide +kernel)) (fun _ h9 => h9) rfl dX3_markAll_28 ?_
      refine lv_topi (fun z2 ez2 => ?_)
      have hw := nmI.go hw z2 ez2
      refine lv_icmp_ge (tgt := 70) hx hb dX3_markAll_31 (by decide) (fun c3 => ?_) (fun c3 => ?_)
      · have hw := brN.t hw c3
        refine lv_iload_n hx hb dX3_markAll_70 rfl (lv_at hl 1 rfl) ?_
        exact hret a1 u 71 _ _ _ dX3_markAll_71 rfl hw hP hD hS
      · have hw := brN.f hw c3
        refine lv_aload_n hx hb dX3_markAll_34 rfl (lv_at hl 0 rfl) ?_
        refine va_get (D := G) (ci := 3) (v := .ref (am 9)) (C := RX3) (T := TX3) (N := 24) hx hb hts hiX3 hown hK hP 0 rfl rfl 15 (by decide) (hts (.fieldLink RX3 35 "TreapVersionsModel" "isLive" "[Z") (by decide +kernel)) (fun _ h9 => h9) rfl dX3_markAll_35 ?_
        refine lv_iload_n hx hb dX3_markAll_38 rfl (lv_at hl 2 rfl) ?_
        refine va_zald hx hb hK hP 9 1 rfl rfl (rdA.hin hw) dX3_markAll_39 ?_
        refine lv_topi (fun z4 ez4 => ?_)
        have hw := rdA.go hw z4 ez4
        refine lv_if_eq (tgt := 62) hx hb dX3_markAll_40 (by decide) (fun c5 => ?_) (fun c5 => ?_)
        · have hw := brN.t hw c5
          refine lv_iload_n hx hb dX3_markAll_62 rfl (lv_at hl 1 rfl) ?_
          refine lv_istore_n (lv' := [(1, .int a1), (0, .ref (am 0)), (2, .int a2)]) hx hb dX3_markAll_63 rfl hl (by decide) rfl (fun ls hl => ?_)
          obtain ⟨z6, ez6⟩ : ∃ y : Int32, y = a2 + 1 := ⟨_, rfl⟩
          have hw := nmI.go hw z6 ez6
          refine lv_iinc (v := z6) (lv' := [(2, .int z6), (1, .int a1), (0, .ref (am 0))]) hx hb dX3_markAll_64 hl (k := 2) rfl (by rw [ez6]; rfl) (by decide) rfl (fun ls hl => ?_)
          refine lv_goto (tgt := 26) hx hb dX3_markAll_67 (by decide) ?_
          exact ih a1 z6 u hw _ _ hP hD hS _ (lv_sub hl [2, 1, 0] rfl)
        · have hw := brN.f hw c5
          refine lv_iload_n hx hb dX3_markAll_43 rfl (lv_at hl 1 rfl) ?_
          refine lv_aload_n hx hb dX3_markAll_44 rfl (lv_at hl 0 rfl) ?_
          refine lv_aload_n hx hb dX3_markAll_45 rfl (lv_at hl 0 rfl) ?_
          refine va_get (D := G) (ci := 3) (v := .ref (am 10)) (C := RX3) (T := TX3) (N := 24) hx hb hts hiX3 hown hK hP 0 rfl rfl 16 (by decide) (hts (.fieldLink RX3 38 "TreapVersionsModel" "root" "[I") (by decide +kernel)) (fun _ h9 => h9) rfl dX3_markAll_46 ?_
          refine lv_iload_n hx hb dX3_markAll_49 rfl (lv_at hl 2 rfl) ?_
          refine va_iald hx hb hK hP 10 0 rfl rfl (rdA.hin hw) dX3_markAll_50 ?_
          refine lv_topi (fun z7 ez7 => ?_)
          have hw := rdA.go hw z7 ez7
          refine lv_aload_n hx hb dX3_markAll_51 rfl (lv_at hl 0 rfl) ?_
          refine va_get (D := G) (ci := 3) (v := .ref (am 6)) (C := RX3) (T := TX3) (N := 24) hx hb hts hiX3 hown hK hP 0 rfl rfl 11 (by decide) (hts (.fieldLink RX3 25 "TreapVersionsModel" "live" "[Z") (by decide +kernel)) (fun _ h9 => h9) rfl dX3_markAll_52 ?_
          refine CtI.call (As := [.int z7, .ref (am 6)]) (rest := [.int a1]) (c_X3_markL l G am cI cZ z7 u _ hw) ⟨hx, hb, hml, hown, hts⟩ (cwV 2 hts gX3_markAll_X3_mark rfl rfl rfl (by decide +kernel) ⟨Nat.le_of_ble_eq_true rfl, Nat.le_of_ble_eq_true rfl⟩) (va_recv hK hP (ci := 3) (q0 := 0) rfl rfl) hK hP hD hS hA rfl hl.1 rfl (Nat.le_of_ble_eq_true rfl) dX3_markAll_55 ⟨Nat.zero_le _, Nat.zero_le _⟩ (fun r9 u8 H locs hw hP hD hS => ?_)
          refine lv_iadd hx hb dX3_markAll_58 ?_
          refine lv_topi (fun z10 ez10 => ?_)
          have hw := nmI.go hw z10 ez10
          refine lv_goto (tgt := 63) hx hb dX3_markAll_59 (by decide) ?_
          refine lv_istore_n (lv' := [(1, .int z10), (0, .ref (am 0)), (2, .int a2)]) hx hb dX3_markAll_63 rfl hl (by decide) rfl (fun ls hl => ?_)
          obtain ⟨z11, ez11⟩ : ∃ y : Int32, y = a2 + 1 := ⟨_, rfl⟩
          have hw := nmI.go hw z11 ez11
          refine lv_iinc (v := z11) (lv' := [(2, .int z11), (1, .int z10), (0, .ref (am 0))]) hx hb dX3_markAll_64 hl (k := 2) rfl (by rw [ez11]; rfl) (by decide) rfl (fun ls hl => ?_)
          refine lv_goto (tgt := 26) hx hb dX3_markAll_67 (by decide) ?_
          exact ih z10 z11 u8 hw _ _ hP hD hS _ (lv_sub hl [2, 1, 0] rfl)
  have hlp2 : ∀ (n : Nat) (a1 : Int32) (u : CS), lp_X3_markAll_2 post n a1 u → ∀ (H : Heap) (locs : List Loc), va_P G vwCl (mw am cI cZ u) H → va_D A (mw am cI cZ u) → va_S A s.heap H locs → ∀ ls : Array Slot, lv_has ls 3 [(0, .ref (am 0)), (1, .int a1)] → W p l e ({ frames := 1, cells := 0, slots := 0, locals := 24 }) s m ([.ref (am 0)] : List Value).toArray below meth c H locs 0 0 Q (F0 m 2 ls []) := by
    clear hw hl hP hD hS
    intro n
    induction n with
    | zero => intro a1 u hw; exact False.elim hw
    | succ n ih =>
      intro a1 u hw H locs hP hD hS ls hl
      unfold lp_X3_markAll_2 at hw
      refine lv_iload_n hx hb dX3_markAll_2 rfl (lv_at hl 1 rfl) ?_
      refine lv_sipush (v := 160) hx hb dX3_markAll_3 (by decide) ?_
      refine lv_icmp_ge (tgt := 22) hx hb dX3_markAll_6 (by decide) (fun c1 => ?_) (fun c1 => ?_)
      · have hw := brN.t hw c1
        refine lv_iconst (v := 0) hx hb dX3_markAll_22 (by decide) ?_
        refine lv_istore_n (lv' := [(1, .int 0), (0, .ref (am 0))]) hx hb dX3_markAll_23 rfl hl (by decide) rfl (fun ls hl => ?_)
        refine lv_iconst (v := 0) hx hb dX3_markAll_24 (by decide) ?_
        refine lv_istore_n (lv' := [(2, .int 0), (1, .int 0), (0, .ref (am 0))]) hx hb dX3_markAll_25 rfl hl (by decide) rfl (fun ls hl => ?_)
        obtain ⟨n9, hw⟩ := hw
        exact hlp26 n9 0 0 u hw _ _ hP hD hS _ (lv_sub hl [2, 1, 0] rfl)
      · have hw := brN.f hw c1
        refine lv_aload_n hx hb dX3_markAll_9 rfl (lv_at hl 0 rfl) ?_
        refine va_get (D := G) (ci := 3) (v := .ref (am 6)) (C := RX3) (T := TX3) (N := 24) hx hb hts hiX3 hown hK hP 0 rfl rfl 11 (by decide) (hts (.fieldLink RX3 25 "TreapVersionsModel" "live" "[Z") (by decide +kernel)) (fun _ h9 => h9) rfl dX3_markAll_10 ?_
        refine lv_iload_n hx hb dX3_markAll_13 rfl (lv_at hl 1 rfl) ?_
        refine lv_iconst (v := 0) hx hb dX3_markAll_14 (by decide) ?_
        refine va_zast hx hb hK hP hD hS 6 1 rfl rfl (wrZ.hin hw) dX3_markAll_15 (fun H locs hP hD hS => ?_)
        obtain ⟨u12, eu12⟩ : ∃ z : CS, z = cset u 11 (upd (u 11) a1.toNatClampNeg (vp_nar .boolean 0)) := ⟨_, rfl⟩
        have hP : va_P G vwCl (mw am cI cZ (cset u 11 (upd (u 11) a1.toNatClampNeg (vp_nar .boolean 0)))) H := hP
        have hD : va_D A (mw am cI cZ (cset u 11 (upd (u 11) a1.toNatClampNeg (vp_nar .boolean 0)))) := hD
        rw [← eu12] at hP hD
        have hw := wrZ.go hw u12 eu12
        obtain ⟨z13, ez13⟩ : ∃ y : Int32, y = a1 + 1 := ⟨_, rfl⟩
        have hw := nmI.go hw z13 ez13
        refine lv_iinc (v := z13) (lv' := [(1, .int z13), (0, .ref (am 0))]) hx hb dX3_markAll_16 hl (k := 1) rfl (by rw [ez13]; rfl) (by decide) rfl (fun ls hl => ?_)
        refine lv_goto (tgt := 2) hx hb dX3_markAll_19 (by decide) ?_
        exact ih z13 u12 hw _ _ hP hD hS _ (lv_sub hl [1, 0] rfl)
  unfold wp_X3_markAll at hw
  refine lv_iconst (v := 0) hx hb dX3_markAll_0 (by decide) ?_
  refine lv_istore_n (lv' := [(1, .int 0), (0, .ref (am 0))]) hx hb dX3_markAll_1 rfl hl (by decide) rfl (fun ls hl => ?_)
  obtain ⟨n9, hw⟩ := hw
  exact hlp2 n9 0 u hw _ _ hP hD hS _ (lv_sub hl [1, 0] rfl)
set_option maxHeartbeats 4000000 in
set_option maxRecDepth 100000 in
theorem c_X3_above (l : Launch) (G : va_G) (am : Nat → Nat) (cI cZ : ClassId) (p0 : Int32) (p1 : Int32) (u : CS) (post : Int32 → CS → Prop) (hw : wp_X3_above p0 p1 u post) : CtI l yX3_above wsX3_above ({ frames := 0, cells := 0, slots := 0, locals := 0 }) G (ty2 cI cZ) (mw am cI cZ) [.ref (am 0), .int p0, .int p1] u (fun r u => isB r ∧ post r u) := by
  refine CtI.of (cc := cX3_above) (maxL := 3) (rt := .boolean) (by decide) rfl (Nat.le_of_ble_eq_true rfl) ?_
  intro p e s m below meth c A Q hx hb hml hts hown hK hA hret ls hl hP hD hS
  have hiX3 : ∀ w ∈ u_ws RX3 TX3 24, w ∈ wsX3_above := by decide +kernel
  have hown : s.vm.findClass RX3 = some m.cls := hown
  have hl : lv_has ls 3 [(0, .ref (am 0)), (1, .int p0), (2, .int p1)] := hl
  unfold wp_X3_above at hw
  refine lv_aload_n hx hb dX3_above_0 rfl (lv_at hl 0 rfl) ?_
  refine va_get (D := G) (ci := 3) (v := .ref (am 3)) (C := RX3) (T := TX3) (N := 24) hx hb hts hiX3 hown hK hP 0 rfl rfl 8 (by decide) (hts (.fieldLink RX3 16 "TreapVersionsModel" "weight" "[I") (by decide +kernel)) (fun _ h9 => h9) rfl dX3_above_1 ?_
  refine lv_iload_n hx hb dX3_above_4 rfl (lv_at hl 1 rfl) ?_
  refine va_iald hx hb hK hP 3 0 rfl rfl (rdA.hin hw) dX3_above_5 ?_
  refine lv_topi (fun z1 ez1 => ?_)
  have hw := rdA.go hw z1 ez1
  refine lv_aload_n hx hb dX3_above_6 rfl (lv_at hl 0 rfl) ?_
  refine va_get (D := G) (ci := 3) (v := .ref (am 3)) (C := RX3) (T := TX3) (N := 24) hx hb hts hiX3 hown hK hP 0 rfl rfl 8 (by decide) (hts (.fieldLink RX3 16 "TreapVersionsModel" "weight" "[I") (by decide +kernel)) (fun _ h9 => h9) rfl dX3_above_7 ?_
  refine lv_iload_n hx hb dX3_above_10 rfl (lv_at hl 2 rfl) ?_
  refine va_iald hx hb hK hP 3 0 rfl rfl (rdA.hin hw) dX3_above_11 ?_
  refine lv_topi (fun z2 ez2 => ?_)
  have hw := rdA.go hw z2 ez2
  refine lv_icmp_gt (tgt := 45) hx hb dX3_above_12 (by decide) (fun c3 => ?_) (fun c3 => ?_)
  · have hw := brN.t hw c3
    refine lv_iconst (v := 1) hx hb dX3_above_45 (by decide) ?_
    refine lv_goto (tgt := 50) hx hb dX3_above_46 (by decide) ?_
    exact hret 1 u 50 _ _ _ dX3_above_50 rfl ⟨isB_1, hw⟩ hP hD hS
  · have hw := brN.f hw c3
    refine lv_aload_n hx hb dX3_above_15 rfl (lv_at hl 0 rfl) ?_
    refine va_get (D := G) (ci := 3) (v := .ref (am 3)) (C := RX3) (T := TX3) (N := 24) hx hb hts hiX3 hown hK hP 0 rfl rfl 8 (by decide) (hts (.fieldLink RX3 16 "TreapVersionsModel" "weight" "[I") (by decide +kernel)) (fun _ h9 => h9) rfl dX3_above_16 ?_
    refine lv_iload_n hx hb dX3_above_19 rfl (lv_at hl 1 rfl) ?_
    refine va_iald hx hb hK hP 3 0 rfl rfl (rdA.hin hw) dX3_above_20 ?_
    refine lv_topi (fun z4 ez4 => ?_)
    have hw := rdA.go hw z4 ez4
    refine lv_aload_n hx hb dX3_above_21 rfl (lv_at hl 0 rfl) ?_
    refine va_get (D := G) (ci := 3) (v := .ref (am 3)) (C := RX3) (T := TX3) (N := 24) hx hb hts hiX3 hown hK hP 0 rfl rfl 8 (by decide) (hts (.fieldLink RX3 16 "TreapVersionsModel" "weight" "[I") (by decide +kernel)) (fun _ h9 => h9) rfl dX3_above_22 ?_
    refine lv_iload_n hx hb dX3_above_25 rfl (lv_at hl 2 rfl) ?_
    refine va_iald hx hb hK hP 3 0 rfl rfl (rdA.hin hw) dX3_above_26 ?_
    refine lv_topi (fun z5 ez5 => ?_)
    have hw := rdA.go hw z5 ez5
    refine lv_icmp_ne (tgt := 49) hx hb dX3_above_27 (by decide) (fun c6 => ?_) (fun c6 => ?_)
    · have hw := brN.f hw c6
      refine lv_iconst (v := 0) hx hb dX3_above_49 (by decide) ?_
      exact hret 0 u 50 _ _ _ dX3_above_50 rfl ⟨isB_0, hw⟩ hP hD hS
    · have hw := brN.t hw c6
      refine lv_aload_n hx hb dX3_above_30 rfl (lv_at hl 0 rfl) ?_
      refine va_get (D := G) (ci := 3) (v := .ref (am 1)) (C := RX3) (T := TX3) (N := 24) hx hb hts hiX3 hown hK hP 0 rfl rfl 6 (by decide) (hts (.fieldLink RX3 7 "TreapVersionsModel" "key" "[I") (by decide +kernel)) (fun _ h9 => h9) rfl dX3_above_31 ?_
      refine lv_iload_n hx hb dX3_above_34 rfl (lv_at hl 1 rfl) ?_
      refine va_iald hx hb hK hP 1 0 rfl rfl (rdA.hin hw) dX3_above_35 ?_
      refine lv_topi (fun z7 ez7 => ?_)
      have hw := rdA.go hw z7 ez7
      refine lv_aload_n hx hb dX3_above_36 rfl (lv_at hl 0 rfl) ?_
      refine va_get (D := G) (ci := 3) (v := .ref (am 1)) (C := RX3) (T := TX3) (N := 24) hx hb hts hiX3 hown hK hP 0 rfl rfl 6 (by decide) (hts (.fieldLink RX3 7 "TreapVersionsModel" "key" "[I") (by decide +kernel)) (fun _ h9 => h9) rfl dX3_above_37 ?_
      refine lv_iload_n hx hb dX3_above_40 rfl (lv_at hl 2 rfl) ?_
      refine va_iald hx hb hK hP 1 0 rfl rfl (rdA.hin hw) dX3_above_41 ?_
      refine lv_topi (fun z8 ez8 => ?_)
      have hw := rdA.go hw z8 ez8
      refine lv_icmp_ge (tgt := 49) hx hb dX3_above_42 (by decide) (fun c9 => ?_) (fun c9 => ?_)
      · have hw := brN.t hw c9
        refine lv_iconst (v := 0) hx hb dX3_above_49 (by decide) ?_
        exact hret 0 u 50 _ _ _ dX3_above_50 rfl ⟨isB_0, hw⟩ hP hD hS
      · have hw := brN.f hw c9
        refine lv_iconst (v := 1) hx hb dX3_above_45 (by decide) ?_
        refine lv_goto (tgt := 50) hx hb dX3_above_46 (by decide) ?_
        exact hret 1 u 50 _ _ _ dX3_above_50 rfl ⟨isB_1, hw⟩ hP hD hS
set_option maxHeartbeats 4000000 in
set_option maxRecDepth 100000 in
theorem c_X3_begin (l : Launch) (G : va_G) (am : Nat → Nat) (cI cZ : ClassId) (u : CS) (post : CS → Prop) (hw : wp_X3_begin u post) : CtV l yX3_begin wsX3_begin ({ frames := 2, cells := 0, slots := 0, locals := 46 }) G (ty2 cI cZ) (mw am cI cZ) [.ref (am 0)] u post := by
  refine CtV.of (cc := cX3_begin) (maxL := 1) (by decide) rfl (Nat.le_of_ble_eq_true rfl) ?_
  intro p e s m below meth c A Q hx hb hml hts hown hK hA hret ls hl hP hD hS
  have hiX3 : ∀ w ∈ u_ws RX3 TX3 24, w ∈ wsX3_begin := by decide +kernel
  have hown : s.vm.findClass RX3 = some m.cls := hown
  have hl : lv_has ls 1 [(0, .ref (am 0))] := hl
  unfold wp_X3_begin at hw
  refine lv_aload_n hx hb dX3_begin_0 rfl (lv_at hl 0 rfl) ?_
  refine CtI.call (As := []) (rest := []) (c_X3_markAll l G am cI cZ u _ hw) ⟨hx, hb, hml, hown, hts⟩ (cwV 0 hts gX3_begin_X3_markAll rfl rfl rfl (by decide +kernel) ⟨Nat.le_of_ble_eq_true rfl, Nat.le_of_ble_eq_true rfl⟩) (va_recv hK hP (ci := 3) (q0 := 0) rfl rfl) hK hP hD hS hA rfl hl.1 rfl (Nat.le_of_ble_eq_true rfl) dX3_begin_1 ⟨Nat.zero_le _, Nat.zero_le _⟩ (fun r2 u1 H locs hw hP hD hS => ?_)
  refine lv_pop hx hb dX3_begin_4 rfl ?_
  refine lv_aload_n hx hb dX3_begin_5 rfl (lv_at hl 0 rfl) ?_
  refine lv_iconst (v := 0) hx hb dX3_begin_6 (by decide) ?_
  refine va_put (D := G) (ci := 3) (v := .int 0) (ty := .int) (C := RX3) (T := TX3) (N := 24) hx hb hts hiX3 tyX3 tyX3_ok nmX3 hown hK hP hD hS 0 rfl rfl 17 (by decide) (hts (.fieldLink RX3 68 "TreapVersionsModel" "fresh" "I") (by decide +kernel)) (fun _ h9 => h9) rfl (by decide +kernel) rfl rfl (Nat.le_of_ble_eq_true rfl) dX3_begin_7 (fun H locs hP hD hS => ?_)
  obtain ⟨u3, eu3⟩ : ∃ z : CS, z = cset u1 17 (fun _ => 0) := ⟨_, rfl⟩
  have hP : va_P G vwCl (mw am cI cZ (cset u1 17 (fun _ => 0))) H := hP
  have hD : va_D A (mw am cI cZ (cset u1 17 (fun _ => 0))) := hD
  rw [← eu3] at hP hD
  have hw := stF.go hw u3 eu3
  refine lv_aload_n hx hb dX3_begin_10 rfl (lv_at hl 0 rfl) ?_
  refine lv_iconst (v := 0) hx hb dX3_begin_11 (by decide) ?_
  refine va_put (D := G) (ci := 3) (v := .int 0) (ty := .int) (C := RX3) (T := TX3) (N := 24) hx hb hts hiX3 tyX3 tyX3_ok nmX3 hown hK hP hD hS 0 rfl rfl 18 (by decide) (hts (.fieldLink RX3 71 "TreapVersionsModel" "next" "I") (by decide +kernel)) (fun _ h9 => h9) rfl (by decide +kernel) rfl rfl (Nat.le_of_ble_eq_true rfl) dX3_begin_12 (fun H locs hP hD hS => ?_)
  obtain ⟨u4, eu4⟩ : ∃ z : CS, z = cset u3 18 (fun _ => 0) := ⟨_, rfl⟩
  have hP : va_P G vwCl (mw am cI cZ (cset u3 18 (fun _ => 0))) H := hP
  have hD : va_D A (mw am cI cZ (cset u3 18 (fun _ => 0))) := hD
  rw [← eu4] at hP hD
  have hw := stF.go hw u4 eu4
  refine lv_aload_n hx hb dX3_begin_15 rfl (lv_at hl 0 rfl) ?_
  refine lv_iconst (v := (-1)) hx hb dX3_begin_16 (by decide) ?_
  refine va_put (D := G) (ci := 3) (v := .int (-1)) (ty := .int) (C := RX3) (T := TX3) (N := 24) hx hb hts hiX3 tyX3 tyX3_ok nmX3 hown hK hP hD hS 0 rfl rfl 19 (by decide) (hts (.fieldLink RX3 74 "TreapVersionsModel" "tree" "I") (by decide +kernel)) (fun _ h9 => h9) rfl (by decide +kernel) rfl rfl (Nat.le_of_ble_eq_true rfl) dX3_begin_17 (fun H locs hP hD hS => ?_)
  obtain ⟨u5, eu5⟩ : ∃ z : CS, z = cset u4 19 (fun _ => (-1)) := ⟨_, rfl⟩
  have hP : va_P G vwCl (mw am cI cZ (cset u4 19 (fun _ => (-1)))) H := hP
  have hD : va_D A (mw am cI cZ (cset u4 19 (fun _ => (-1)))) := hD
  rw [← eu5] at hP hD
  have hw := stF.go hw u5 eu5
  refine lv_aload_n hx hb dX3_begin_20 rfl (lv_at hl 0 rfl) ?_
  refine lv_iconst (v := (-1)) hx hb dX3_begin_21 (by decide) ?_
  refine va_put (D := G) (ci := 3) (v := .int (-1)) (ty := .int) (C := RX3) (T := TX3) (N := 24) hx hb hts hiX3 tyX3 tyX3_ok nmX3 hown hK hP hD hS 0 rfl rfl 20 (by decide) (hts (.fieldLink RX3 77 "TreapVersionsModel" "hole" "I") (by decide +kernel)) (fun _ h9 => h9) rfl (by decide +kernel) rfl rfl (Nat.le_of_ble_eq_true rfl) dX3_begin_22 (fun H locs hP hD hS => ?_)
  obtain ⟨u6, eu6⟩ : ∃ z : CS, z = cset u5 20 (fun _ => (-1)) := ⟨_, rfl⟩
  have hP : va_P G vwCl (mw am cI cZ (cset u5 20 (fun _ => (-1)))) H := hP
  have hD : va_D A (mw am cI cZ (cset u5 20 (fun _ => (-1)))) := hD
  rw [← eu6] at hP hD
  have hw := stF.go hw u6 eu6
  exact hret u6 25 _ _ _ dX3_begin_25 hw hP hD hS
set_option maxHeartbeats 4000000 in
set_option maxRecDepth 100000 in
theorem c_X3_make (l : Launch) (G : va_G) (am : Nat → Nat) (cI cZ : ClassId) (p0 : Int32) (p1 : Int32) (p2 : Int32) (p3 : Int32) (p4 : Int32) (u : CS) (post : Int32 → CS → Prop) (hw : wp_X3_make p0 p1 p2 p3 p4 u post) : CtI l yX3_make wsX3_make ({ frames := 0, cells := 0, slots := 0, locals := 0 }) G (ty2 cI cZ) (mw am cI cZ) [.ref (am 0), .int p0, .int p1, .int p2, .int p3, .int p4] u post := by
  refine CtI.of (cc := cX3_make) (maxL := 7) (rt := .int) (by decide) rfl (Nat.le_of_ble_eq_true rfl) ?_
  intro p e s m below meth c A Q hx hb hml hts hown hK hA hret ls hl hP hD hS
  have hiX3 : ∀ w ∈ u_ws RX3 TX3 24, w ∈ wsX3_make := by decide +kernel
  have hown : s.vm.findClass RX3 = some m.cls := hown
  have hl : lv_has ls 7 [(0, .ref (am 0)), (1, .int p0), (2, .int p1), (3, .int p2), (4, .int p3), (5, .int p4)] := hl
  have hlp0 : ∀ (n : Nat) (a1 : Int32) (a2 : Int32) (a3 : Int32) (a4 : Int32) (a5 : Int32) (u : CS), lp_X3_make_0 post n a1 a2 a3 a4 a5 u → ∀ (H : Heap) (locs : List Loc), va_P G vwCl (mw am cI cZ u) H → va_D A (mw am cI cZ u) → va_S A s.heap H locs → ∀ ls : Array Slot, lv_has ls 7 [(0, .ref (am 0)), (1, .int a1), (2, .int a2), (3, .int a3), (4, .int a4), (5, .int a5)] → W p l e ({ frames := 0, cells := 0, slots := 0, locals := 0 }) s m ([.ref (am 0), .int p0, .int p1, .int p2, .int p3, .int p4] : List Value).toArray below meth c H locs 0 0 Q (F0 m 0 ls []) := by
    clear hw hl hP hD hS
    intro n
    induction n with
    | zero => intro a1 a2 a3 a4 a5 u hw; exact False.elim hw
    | succ n ih =>
      intro a1 a2 a3 a4 a5 u hw H locs hP hD hS ls hl
      unfold lp_X3_make_0 at hw
      refine lv_aload_n hx hb dX3_make_0 rfl (lv_at hl 0 rfl) ?_
      refine va_get (D := G) (ci := 3) (v := .ref (am 6)) (C := RX3) (T := TX3) (N := 24) hx hb hts hiX3 hown hK hP 0 rfl rfl 11 (by decide) (hts (.fieldLink RX3 25 "TreapVersionsModel" "live" "[Z") (by decide +kernel)) (fun _ h9 => h9) rfl dX3_make_1 ?_
      refine lv_aload_n hx hb dX3_make_4 rfl (lv_at hl 0 rfl) ?_
      refine va_get (D := G) (ci := 3) (v := .int (u 18 0)) (C := RX3) (T := TX3) (N := 24) hx hb hts hiX3 hown hK hP 0 rfl rfl 18 (by decide) (hts (.fieldLink RX3 71 "TreapVersionsModel" "next" "I") (by decide +kernel)) (fun _ h9 => h9) rfl dX3_make_5 ?_
      refine lv_topi (fun z1 ez1 => ?_)
      have hw := nmI.go hw z1 ez1
      refine va_zald hx hb hK hP 6 1 rfl rfl (rdA.hin hw) dX3_make_8 ?_
      refine lv_topi (fun z2 ez2 => ?_)
      have hw := rdA.go hw z2 ez2
      refine lv_if_eq (tgt := 25) hx hb dX3_make_9 (by decide) (fun c3 => ?_) (fun c3 => ?_)
      · have hw := brN.t hw c3
        refine lv_aload_n hx hb dX3_make_25 rfl (lv_at hl 0 rfl) ?_
        refine va_get (D := G) (ci := 3) (v := .int (u 18 0)) (C := RX3) (T := TX3) (N := 24) hx hb hts hiX3 hown hK hP 0 rfl rfl 18 (by decide) (hts (.fieldLink RX3 71 "TreapVersionsModel" "next" "I") (by decide +kernel)) (fun _ h9 => h9) rfl dX3_make_26 ?_
        refine lv_topi (fun z4 ez4 => ?_)
        have hw := nmI.go hw z4 ez4
        refine lv_istore (lv' := [(6, .int z4), (0, .ref (am 0)), (1, .int a1), (2, .int a2), (3, .int a3), (4, .int a4), (5, .int a5)]) hx hb dX3_make_29 hl (by decide) rfl (fun ls hl => ?_)
        refine lv_aload_n hx hb dX3_make_31 rfl (lv_at hl 1 rfl) ?_
        refine lv_dup hx hb dX3_make_32 rfl ?_
        refine va_get (D := G) (ci := 3) (v := .int (u 18 0)) (C := RX3) (T := TX3) (N := 24) hx hb hts hiX3 hown hK hP 0 rfl rfl 18 (by decide) (hts (.fieldLink RX3 71 "TreapVersionsModel" "next" "I") (by decide +kernel)) (fun _ h9 => h9) rfl dX3_make_33 ?_
        refine lv_topi (fun z5 ez5 => ?_)
        have hw := nmI.go hw z5 ez5
        refine lv_iconst (v := 1) hx hb dX3_make_36 (by decide) ?_
        refine lv_iadd hx hb dX3_make_37 ?_
        refine lv_topi (fun z6 ez6 => ?_)
        have hw := nmI.go hw z6 ez6
        refine va_put (D := G) (ci := 3) (v := .int z6) (ty := .int) (C := RX3) (T := TX3) (N := 24) hx hb hts hiX3 tyX3 tyX3_ok nmX3 hown hK hP hD hS 0 rfl rfl 18 (by decide) (hts (.fieldLink RX3 71 "TreapVersionsModel" "next" "I") (by decide +kernel)) (fun _ h9 => h9) rfl (by decide +kernel) rfl rfl (Nat.le_of_ble_eq_true rfl) dX3_make_38 (fun H locs hP hD hS => ?_)
        obtain ⟨u7, eu7⟩ : ∃ z : CS, z = cset u 18 (fun _ => z6) := ⟨_, rfl⟩
        have hP : va_P G vwCl (mw am cI cZ (cset u 18 (fun _ => z6))) H := hP
        have hD : va_D A (mw am cI cZ (cset u 18 (fun _ => z6))) := hD
        rw [← eu7] at hP hD
        have hw := stF.go hw u7 eu7
        refine lv_aload_n hx hb dX3_make_41 rfl (lv_at hl 1 rfl) ?_
        refine lv_dup hx hb dX3_make_42 rfl ?_
        refine va_get (D := G) (ci := 3) (v := .int (u7 17 0)) (C := RX3) (T := TX3) (N := 24) hx hb hts hiX3 hown hK hP 0 rfl rfl 17 (by decide) (hts (.fieldLink RX3 68 "TreapVersionsModel" "fresh" "I") (by decide +kernel)) (fun _ h9 => h9) rfl dX3_make_43 ?_
        refine lv_topi (fun z8 ez8 => ?_)
        have hw := nmI.go hw z8 ez8
        refine lv_iconst (v := 1) hx hb dX3_make_46 (by decide) ?_
        refine lv_iadd hx hb dX3_make_47 ?_
        refine lv_topi (fun z9 ez9 => ?_)
        have hw := nmI.go hw z9 ez9
        refine va_put (D := G) (ci := 3) (v := .int z9) (ty := .int) (C := RX3) (T := TX3) (N := 24) hx hb hts hiX3 tyX3 tyX3_ok nmX3 hown hK hP hD hS 0 rfl rfl 17 (by decide) (hts (.fieldLink RX3 68 "TreapVersionsModel" "fresh" "I") (by decide +kernel)) (fun _ h9 => h9) rfl (by decide +kernel) rfl rfl (Nat.le_of_ble_eq_true rfl) dX3_make_48 (fun H locs hP hD hS => ?_)
        obtain ⟨u10, eu10⟩ : ∃ z : CS, z = cset u7 17 (fun _ => z9) := ⟨_, rfl⟩
        have hP : va_P G vwCl (mw am cI cZ (cset u7 17 (fun _ => z9))) H := hP
        have hD : va_D A (mw am cI cZ (cset u7 17 (fun _ => z9))) := hD
        rw [← eu10] at hP hD
        have hw := stF.go hw u10 eu10
        refine lv_aload_n hx hb dX3_make_51 rfl (lv_at hl 1 rfl) ?_
        refine va_get (D := G) (ci := 3) (v := .ref (am 1)) (C := RX3) (T := TX3) (N := 24) hx hb hts hiX3 hown hK hP 0 rfl rfl 6 (by decide) (hts (.fieldLink RX3 7 "TreapVersionsModel" "key" "[I") (by decide +kernel)) (fun _ h9 => h9) rfl dX3_make_52 ?_
        refine lv_iload hx hb dX3_make_55 (lv_at hl 0 rfl) ?_
        refine lv_iload_n hx hb dX3_make_57 rfl (lv_at hl 2 rfl) ?_
        refine va_iast hx hb hK hP hD hS 1 0 rfl rfl (wrA.hin hw) dX3_make_58 (fun H locs hP hD hS => ?_)
        obtain ⟨u11, eu11⟩ : ∃ z : CS, z = cset u10 6 (upd (u10 6) z4.toNatClampNeg a1) := ⟨_, rfl⟩
        have hP : va_P G vwCl (mw am cI cZ (cset u10 6 (upd (u10 6) z4.toNatClampNeg a1))) H := hP
        have hD : va_D A (mw am cI cZ (cset u10 6 (upd (u10 6) z4.toNatClampNeg a1))) := hD
        rw [← eu11] at hP hD
        have hw := wrA.go hw u11 eu11
        refine lv_aload_n hx hb dX3_make_59 rfl (lv_at hl 1 rfl) ?_
        refine va_get (D := G) (ci := 3) (v := .ref (am 2)) (C := RX3) (T := TX3) (N := 24) hx hb hts hiX3 hown hK hP 0 rfl rfl 7 (by decide) (hts (.fieldLink RX3 13 "TreapVersionsModel" "value" "[I") (by decide +kernel)) (fun _ h9 => h9) rfl dX3_make_60 ?_
        refine lv_iload hx hb dX3_make_63 (lv_at hl 0 rfl) ?_
        refine lv_iload_n hx hb dX3_make_65 rfl (lv_at hl 3 rfl) ?_
        refine va_iast hx hb hK hP hD hS 2 0 rfl rfl (wrA.hin hw) dX3_make_66 (fun H locs hP hD hS => ?_)
        obtain ⟨u12, eu12⟩ : ∃ z : CS, z = cset u11 7 (upd (u11 7) z4.toNatClampNeg a2) := ⟨_, rfl⟩
        have hP : va_P G vwCl (mw am cI cZ (cset u11 7 (upd (u11 7) z4.toNatClampNeg a2))) H := hP
        have hD : va_D A (mw am cI cZ (cset u11 7 (upd (u11 7) z4.toNatClampNeg a2))) := hD
        rw [← eu12] at hP hD
        have hw := wrA.go hw u12 eu12
        refine lv_aload_n hx hb dX3_make_67 rfl (lv_at hl 1 rfl) ?_
        refine va_get (D := G) (ci := 3) (v := .ref (am 3)) (C := RX3) (T := TX3) (N := 24) hx hb hts hiX3 hown hK hP 0 rfl rfl 8 (by decide) (hts (.fieldLink RX3 16 "TreapVersionsModel" "weight" "[I") (by decide +kernel)) (fun _ h9 => h9) rfl dX3_make_68 ?_
        refine lv_iload hx hb dX3_make_71 (lv_at hl 0 rfl) ?_
        refine lv_iload_n hx hb dX3_make_73 rfl (lv_at hl 4 rfl) ?_
        refine va_iast hx hb hK hP hD hS 3 0 rfl rfl (wrA.hin hw) dX3_make_74 (fun H locs hP hD hS => ?_)
        obtain ⟨u13, eu13⟩ : ∃ z : CS, z = cset u12 8 (upd (u12 8) z4.toNatClampNeg a3) := ⟨_, rfl⟩
        have hP : va_P G vwCl (mw am cI cZ (cset u12 8 (upd (u12 8) z4.toNatClampNeg a3))) H := hP
        have hD : va_D A (mw am cI cZ (cset u12 8 (upd (u12 8) z4.toNatClampNeg a3))) := hD
        rw [← eu13] at hP hD
        have hw := wrA.go hw u13 eu13
        refine lv_aload_n hx hb dX3_make_75 rfl (lv_at hl 1 rfl) ?_
        refine va_get (D := G) (ci := 3) (v := .ref (am 4)) (C := RX3) (T := TX3) (N := 24) hx hb hts hiX3 hown hK hP 0 rfl rfl 9 (by decide) (hts (.fieldLink RX3 19 "TreapVersionsModel" "left" "[I") (by decide +kernel)) (fun _ h9 => h9) rfl dX3_make_76 ?_
        refine lv_iload hx hb dX3_make_79 (lv_at hl 0 rfl) ?_
        refine lv_iload hx hb dX3_make_81 (lv_at hl 5 rfl) ?_
        refine va_iast hx hb hK hP hD hS 4 0 rfl rfl (wrA.hin hw) dX3_make_83 (fun H locs hP hD hS => ?_)
        obtain ⟨u14, eu14⟩ : ∃ z : CS, z = cset u13 9 (upd (u13 9) z4.toNatClampNeg a4) := ⟨_, rfl⟩
        have hP : va_P G vwCl (mw am cI cZ (cset u13 9 (upd (u13 9) z4.toNatClampNeg a4))) H := hP
        have hD : va_D A (mw am cI cZ (cset u13 9 (upd (u13 9) z4.toNatClampNeg a4))) := hD
        rw [← eu14] at hP hD
        have hw := wrA.go hw u14 eu14
        refine lv_aload_n hx hb dX3_make_84 rfl (lv_at hl 1 rfl) ?_
        refine va_get (D := G) (ci := 3) (v := .ref (am 5)) (C := RX3) (T := TX3) (N := 24) hx hb hts hiX3 hown hK hP 0 rfl rfl 10 (by decide) (hts (.fieldLink RX3 22 "TreapVersionsModel" "right" "[I") (by decide +kernel)) (fun _ h9 => h9) rfl dX3_make_85 ?_
        refine lv_iload hx hb dX3_make_88 (lv_at hl 0 rfl) ?_
        refine lv_iload hx hb dX3_make_90 (lv_at hl 6 rfl) ?_
        refine va_iast hx hb hK hP hD hS 5 0 rfl rfl (wrA.hin hw) dX3_make_92 (fun H locs hP hD hS => ?_)
        obtain ⟨u15, eu15⟩ : ∃ z : CS, z = cset u14 10 (upd (u14 10) z4.toNatClampNeg a5) := ⟨_, rfl⟩
        have hP : va_P G vwCl (mw am cI cZ (cset u14 10 (upd (u14 10) z4.toNatClampNeg a5))) H := hP
        have hD : va_D A (mw am cI cZ (cset u14 10 (upd (u14 10) z4.toNatClampNeg a5))) := hD
        rw [← eu15] at hP hD
        have hw := wrA.go hw u15 eu15
        refine lv_iload hx hb dX3_make_93 (lv_at hl 0 rfl) ?_
        exact hret z4 u15 95 _ _ _ dX3_make_95 rfl hw hP hD hS
      · have hw := brN.f hw c3
        refine lv_aload_n hx hb dX3_make_12 rfl (lv_at hl 0 rfl) ?_
        refine lv_dup hx hb dX3_make_13 rfl ?_
        refine va_get (D := G) (ci := 3) (v := .int (u 18 0)) (C := RX3) (T := TX3) (N := 24) hx hb hts hiX3 hown hK hP 0 rfl rfl 18 (by decide) (hts (.fieldLink RX3 71 "TreapVersionsModel" "next" "I") (by decide +kernel)) (fun _ h9 => h9) rfl dX3_make_14 ?_
        refine lv_topi (fun z16 ez16 => ?_)
        have hw := nmI.go hw z16 ez16
        refine lv_iconst (v := 1) hx hb dX3_make_17 (by decide) ?_
        refine lv_iadd hx hb dX3_make_18 ?_
        refine lv_topi (fun z17 ez17 => ?_)
        have hw := nmI.go hw z17 ez17
        refine va_put (D := G) (ci := 3) (v := .int z17) (ty := .int) (C := RX3) (T := TX3) (N := 24) hx hb hts hiX3 tyX3 tyX3_ok nmX3 hown hK hP hD hS 0 rfl rfl 18 (by decide) (hts (.fieldLink RX3 71 "TreapVersionsModel" "next" "I") (by decide +kernel)) (fun _ h9 => h9) rfl (by decide +kernel) rfl rfl (Nat.le_of_ble_eq_true rfl) dX3_make_19 (fun H locs hP hD hS => ?_)
        obtain ⟨u18, eu18⟩ : ∃ z : CS, z = cset u 18 (fun _ => z17) := ⟨_, rfl⟩
        have hP : va_P G vwCl (mw am cI cZ (cset u 18 (fun _ => z17))) H := hP
        have hD : va_D A (mw am cI cZ (cset u 18 (fun _ => z17))) := hD
        rw [← eu18] at hP hD
        have hw := stF.go hw u18 eu18
        refine lv_goto (tgt := 0) hx hb dX3_make_22 (by decide) ?_
        exact ih a1 a2 a3 a4 a5 u18 hw _ _ hP hD hS _ (lv_sub hl [0, 1, 2, 3, 4, 5] rfl)
  unfold wp_X3_make at hw
  obtain ⟨n9, hw⟩ := hw
  exact hlp0 n9 p0 p1 p2 p3 p4 u hw _ _ hP hD hS _ (lv_sub hl [0, 1, 2, 3, 4, 5] rfl)
set_option maxHeartbeats 4000000 in
set_option maxRecDepth 100000 in
theorem c_X3_copy (l : Launch) (G : va_G) (am : Nat → Nat) (cI cZ : ClassId) (p0 : Int32) (u : CS) (post : Int32 → CS → Prop) (hw : wp_X3_copy p0 u post) : CtI l yX3_copy wsX3_copy ({ frames := 1, cells := 0, slots := 0, locals := 26 }) G (ty2 cI cZ) (mw am cI cZ) [.ref (am 0), .int p0] u post := by
  refine CtI.of (cc := cX3_copy) (maxL := 2) (rt := .int) (by decide) rfl (Nat.le_of_ble_eq_true rfl) ?_
  intro p e s m below meth c A Q hx hb hml hts hown hK hA hret ls hl hP hD hS
  have hiX3 : ∀ w ∈ u_ws RX3 TX3 24, w ∈ wsX3_copy := by decide +kernel
  have hown : s.vm.findClass RX3 = some m.cls := hown
  have hl : lv_has ls 2 [(0, .ref (am 0)), (1, .int p0)] := hl
  unfold wp_X3_copy at hw
  refine lv_aload_n hx hb dX3_copy_0 rfl (lv_at hl 0 rfl) ?_
  refine lv_aload_n hx hb dX3_copy_1 rfl (lv_at hl 0 rfl) ?_
  refine va_get (D := G) (ci := 3) (v := .ref (am 1)) (C := RX3) (T := TX3) (N := 24) hx hb hts hiX3 hown hK hP 0 rfl rfl 6 (by decide) (hts (.fieldLink RX3 7 "TreapVersionsModel" "key" "[I") (by decide +kernel)) (fun _ h9 => h9) rfl dX3_copy_2 ?_
  refine lv_iload_n hx hb dX3_copy_5 rfl (lv_at hl 1 rfl) ?_
  refine va_iald hx hb hK hP 1 0 rfl rfl (rdA.hin hw) dX3_copy_6 ?_
  refine lv_topi (fun z1 ez1 => ?_)
  have hw := rdA.go hw z1 ez1
  refine lv_aload_n hx hb dX3_copy_7 rfl (lv_at hl 0 rfl) ?_
  refine va_get (D := G) (ci := 3) (v := .ref (am 2)) (C := RX3) (T := TX3) (N := 24) hx hb hts hiX3 hown hK hP 0 rfl rfl 7 (by decide) (hts (.fieldLink RX3 13 "TreapVersionsModel" "value" "[I") (by decide +kernel)) (fun _ h9 => h9) rfl dX3_copy_8 ?_
  refine lv_iload_n hx hb dX3_copy_11 rfl (lv_at hl 1 rfl) ?_
  refine va_iald hx hb hK hP 2 0 rfl rfl (rdA.hin hw) dX3_copy_12 ?_
  refine lv_topi (fun z2 ez2 => ?_)
  have hw := rdA.go hw z2 ez2
  refine lv_aload_n hx hb dX3_copy_13 rfl (lv_at hl 0 rfl) ?_
  refine va_get (D := G) (ci := 3) (v := .ref (am 3)) (C := RX3) (T := TX3) (N := 24) hx hb hts hiX3 hown hK hP 0 rfl rfl 8 (by decide) (hts (.fieldLink RX3 16 "TreapVersionsModel" "weight" "[I") (by decide +kernel)) (fun _ h9 => h9) rfl dX3_copy_14 ?_
  refine lv_iload_n hx hb dX3_copy_17 rfl (lv_at hl 1 rfl) ?_
  refine va_iald hx hb hK hP 3 0 rfl rfl (rdA.hin hw) dX3_copy_18 ?_
  refine lv_topi (fun z3 ez3 => ?_)
  have hw := rdA.go hw z3 ez3
  refine lv_aload_n hx hb dX3_copy_19 rfl (lv_at hl 0 rfl) ?_
  refine va_get (D := G) (ci := 3) (v := .ref (am 4)) (C := RX3) (T := TX3) (N := 24) hx hb hts hiX3 hown hK hP 0 rfl rfl 9 (by decide) (hts (.fieldLink RX3 19 "TreapVersionsModel" "left" "[I") (by decide +kernel)) (fun _ h9 => h9) rfl dX3_copy_20 ?_
  refine lv_iload_n hx hb dX3_copy_23 rfl (lv_at hl 1 rfl) ?_
  refine va_iald hx hb hK hP 4 0 rfl rfl (rdA.hin hw) dX3_copy_24 ?_
  refine lv_topi (fun z4 ez4 => ?_)
  have hw := rdA.go hw z4 ez4
  refine lv_aload_n hx hb dX3_copy_25 rfl (lv_at hl 0 rfl) ?_
  refine va_get (D := G) (ci := 3) (v := .ref (am 5)) (C := RX3) (T := TX3) (N := 24) hx hb hts hiX3 hown hK hP 0 rfl rfl 10 (by decide) (hts (.fieldLink RX3 22 "TreapVersionsModel" "right" "[I") (by decide +kernel)) (fun _ h9 => h9) rfl dX3_copy_26 ?_
  refine lv_iload_n hx hb dX3_copy_29 rfl (lv_at hl 1 rfl) ?_
  refine va_iald hx hb hK hP 5 0 rfl rfl (rdA.hin hw) dX3_copy_30 ?_
  refine lv_topi (fun z5 ez5 => ?_)
  have hw := rdA.go hw z5 ez5
  refine CtI.call (As := [.int z1, .int z2, .int z3, .int z4, .int z5]) (rest := []) (c_X3_make l G am cI cZ z1 z2 z3 z4 z5 u _ hw) ⟨hx, hb, hml, hown, hts⟩ (cwV 5 hts gX3_copy_X3_make rfl rfl rfl (by decide +kernel) ⟨Nat.le_of_ble_eq_true rfl, Nat.le_of_ble_eq_true rfl⟩) (va_recv hK hP (ci := 3) (q0 := 0) rfl rfl) hK hP hD hS hA rfl hl.1 rfl (Nat.le_of_ble_eq_true rfl) dX3_copy_31 ⟨Nat.zero_le _, Nat.zero_le _⟩ (fun r7 u6 H locs hw hP hD hS => ?_)
  exact hret r7 u6 34 _ _ _ dX3_copy_34 rfl hw hP hD hS
set_option maxHeartbeats 4000000 in
set_option maxRecDepth 100000 in
theorem c_X3_hang (l : Launch) (G : va_G) (am : Nat → Nat) (cI cZ : ClassId) (p0 : Int32) (u : CS) (post : CS → Prop) (hw : wp_X3_hang p0 u post) : CtV l yX3_hang wsX3_hang ({ frames := 0, cells := 0, slots := 0, locals := 0 }) G (ty2 cI cZ) (mw am cI cZ) [.ref (am 0), .int p0] u post := by
  refine CtV.of (cc := cX3_hang) (maxL := 2) (by decide) rfl (Nat.le_of_ble_eq_true rfl) ?_
  intro p e s m below meth c A Q hx hb hml hts hown hK hA hret ls hl hP hD hS
  have hiX3 : ∀ w ∈ u_ws RX3 TX3 24, w ∈ wsX3_hang := by decide +kernel
  have hown : s.vm.findClass RX3 = some m.cls := hown
  have hl : lv_has ls 2 [(0, .ref (am 0)), (1, .int p0)] := hl
  unfold wp_X3_hang at hw
  refine lv_aload_n hx hb dX3_hang_0 rfl (lv_at hl 0 rfl) ?_
  refine va_get (D := G) (ci := 3) (v := .int (u 20 0)) (C := RX3) (T := TX3) (N := 24) hx hb hts hiX3 hown hK hP 0 rfl rfl 20 (by decide) (hts (.fieldLink RX3 77 "TreapVersionsModel" "hole" "I") (by decide +kernel)) (fun _ h9 => h9) rfl dX3_hang_1 ?_
  refine lv_topi (fun z1 ez1 => ?_)
  have hw := nmI.go hw z1 ez1
  refine lv_if_ge (tgt := 15) hx hb dX3_hang_4 (by decide) (fun c2 => ?_) (fun c2 => ?_)
  · have hw := brN.t hw c2
    refine lv_aload_n hx hb dX3_hang_15 rfl (lv_at hl 0 rfl) ?_
    refine va_get (D := G) (ci := 3) (v := .int (u 21 0)) (C := RX3) (T := TX3) (N := 24) hx hb hts hiX3 hown hK hP 0 rfl rfl 21 (by decide) (hts (.fieldLink RX3 84 "TreapVersionsModel" "holeRight" "Z") (by decide +kernel)) (fun _ h9 => h9) rfl dX3_hang_16 ?_
    refine lv_topi (fun z3 ez3 => ?_)
    have hw := nmI.go hw z3 ez3
    refine lv_if_eq (tgt := 35) hx hb dX3_hang_19 (by decide) (fun c4 => ?_) (fun c4 => ?_)
    · have hw := brN.t hw c4
      refine lv_aload_n hx hb dX3_hang_35 rfl (lv_at hl 0 rfl) ?_
      refine va_get (D := G) (ci := 3) (v := .ref (am 4)) (C := RX3) (T := TX3) (N := 24) hx hb hts hiX3 hown hK hP 0 rfl rfl 9 (by decide) (hts (.fieldLink RX3 19 "TreapVersionsModel" "left" "[I") (by decide +kernel)) (fun _ h9 => h9) rfl dX3_hang_36 ?_
      refine lv_aload_n hx hb dX3_hang_39 rfl (lv_at hl 0 rfl) ?_
      refine va_get (D := G) (ci := 3) (v := .int (u 20 0)) (C := RX3) (T := TX3) (N := 24) hx hb hts hiX3 hown hK hP 0 rfl rfl 20 (by decide) (hts (.fieldLink RX3 77 "TreapVersionsModel" "hole" "I") (by decide +kernel)) (fun _ h9 => h9) rfl dX3_hang_40 ?_
      refine lv_topi (fun z5 ez5 => ?_)
      have hw := nmI.go hw z5 ez5
      refine lv_iload_n hx hb dX3_hang_43 rfl (lv_at hl 1 rfl) ?_
      refine va_iast hx hb hK hP hD hS 4 0 rfl rfl (wrA.hin hw) dX3_hang_44 (fun H locs hP hD hS => ?_)
      obtain ⟨u6, eu6⟩ : ∃ z : CS, z = cset u 9 (upd (u 9) z5.toNatClampNeg p0) := ⟨_, rfl⟩
      have hP : va_P G vwCl (mw am cI cZ (cset u 9 (upd (u 9) z5.toNatClampNeg p0))) H := hP
      have hD : va_D A (mw am cI cZ (cset u 9 (upd (u 9) z5.toNatClampNeg p0))) := hD
      rw [← eu6] at hP hD
      have hw := wrA.go hw u6 eu6
      exact hret u6 45 _ _ _ dX3_hang_45 hw hP hD hS
    · have hw := brN.f hw c4
      refine lv_aload_n hx hb dX3_hang_22 rfl (lv_at hl 0 rfl) ?_
      refine va_get (D := G) (ci := 3) (v := .ref (am 5)) (C := RX3) (T := TX3) (N := 24) hx hb hts hiX3 hown hK hP 0 rfl rfl 10 (by decide) (hts (.fieldLink RX3 22 "TreapVersionsModel" "right" "[I") (by decide +kernel)) (fun _ h9 => h9) rfl dX3_hang_23 ?_
      refine lv_aload_n hx hb dX3_hang_26 rfl (lv_at hl 0 rfl) ?_
      refine va_get (D := G) (ci := 3) (v := .int (u 20 0)) (C := RX3) (T := TX3) (N := 24) hx hb hts hiX3 hown hK hP 0 rfl rfl 20 (by decide) (hts (.fieldLink RX3 77 "TreapVersionsModel" "hole" "I") (by decide +kernel)) (fun _ h9 => h9) rfl dX3_hang_27 ?_
      refine lv_topi (fun z7 ez7 => ?_)
      have hw := nmI.go hw z7 ez7
      refine lv_iload_n hx hb dX3_hang_30 rfl (lv_at hl 1 rfl) ?_
      refine va_iast hx hb hK hP hD hS 5 0 rfl rfl (wrA.hin hw) dX3_hang_31 (fun H locs hP hD hS => ?_)
      obtain ⟨u8, eu8⟩ : ∃ z : CS, z = cset u 10 (upd (u 10) z7.toNatClampNeg p0) := ⟨_, rfl⟩
      have hP : va_P G vwCl (mw am cI cZ (cset u 10 (upd (u 10) z7.toNatClampNeg p0))) H := hP
      have hD : va_D A (mw am cI cZ (cset u 10 (upd (u 10) z7.toNatClampNeg p0))) := hD
      rw [← eu8] at hP hD
      have hw := wrA.go hw u8 eu8
      refine lv_goto (tgt := 45) hx hb dX3_hang_32 (by decide) ?_
      exact hret u8 45 _ _ _ dX3_hang_45 hw hP hD hS
  · have hw := brN.f hw c2
    refine lv_aload_n hx hb dX3_hang_7 rfl (lv_at hl 0 rfl) ?_
    refine lv_iload_n hx hb dX3_hang_8 rfl (lv_at hl 1 rfl) ?_
    refine va_put (D := G) (ci := 3) (v := .int p0) (ty := .int) (C := RX3) (T := TX3) (N := 24) hx hb hts hiX3 tyX3 tyX3_ok nmX3 hown hK hP hD hS 0 rfl rfl 19 (by decide) (hts (.fieldLink RX3 74 "TreapVersionsModel" "tree" "I") (by decide +kernel)) (fun _ h9 => h9) rfl (by decide +kernel) rfl rfl (Nat.le_of_ble_eq_true rfl) dX3_hang_9 (fun H locs hP hD hS => ?_)
    obtain ⟨u9, eu9⟩ : ∃ z : CS, z = cset u 19 (fun _ => p0) := ⟨_, rfl⟩
    have hP : va_P G vwCl (mw am cI cZ (cset u 19 (fun _ => p0))) H := hP
    have hD : va_D A (mw am cI cZ (cset u 19 (fun _ => p0))) := hD
    rw [← eu9] at hP hD
    have hw := stF.go hw u9 eu9
    refine lv_goto (tgt := 45) hx hb dX3_hang_12 (by decide) ?_
    exact hret u9 45 _ _ _ dX3_hang_45 hw hP hD hS
set_option maxHeartbeats 4000000 in
set_option maxRecDepth 100000 in
theorem c_X3_holeAt (l : Launch) (G : va_G) (am : Nat → Nat) (cI cZ : ClassId) (p0 : Int32) (p1 : Int32) (u : CS) (post : CS → Prop) (hw : wp_X3_holeAt p0 p1 u post) : CtV l yX3_holeAt wsX3_holeAt ({ frames := 0, cells := 0, slots := 0, locals := 0 }) G (ty2 cI cZ) (mw am cI cZ) [.ref (am 0), .int p0, .int p1] u post := by
  refine CtV.of (cc := cX3_holeAt) (maxL := 3) (by decide) rfl (Nat.le_of_ble_eq_true rfl) ?_
  intro p e s m below meth c A Q hx hb hml hts hown hK hA hret ls hl hP hD hS
  have hiX3 : ∀ w ∈ u_ws RX3 TX3 24, w ∈ wsX3_holeAt := by decide +kernel
  have hown : s.vm.findClass RX3 = some m.cls := hown
  have hl : lv_has ls 3 [(0, .ref (am 0)), (1, .int p0), (2, .int p1)] := hl
  unfold wp_X3_holeAt at hw
  refine lv_aload_n hx hb dX3_holeAt_0 rfl (lv_at hl 0 rfl) ?_
  refine lv_iload_n hx hb dX3_holeAt_1 rfl (lv_at hl 1 rfl) ?_
  refine va_put (D := G) (ci := 3) (v := .int p0) (ty := .int) (C := RX3) (T := TX3) (N := 24) hx hb hts hiX3 tyX3 tyX3_ok nmX3 hown hK hP hD hS 0 rfl rfl 20 (by decide) (hts (.fieldLink RX3 77 "TreapVersionsModel" "hole" "I") (by decide +kernel)) (fun _ h9 => h9) rfl (by decide +kernel) rfl rfl (Nat.le_of_ble_eq_true rfl) dX3_holeAt_2 (fun H locs hP hD hS => ?_)
  obtain ⟨u1, eu1⟩ : ∃ z : CS, z = cset u 20 (fun _ => p0) := ⟨_, rfl⟩
  have hP : va_P G vwCl (mw am cI cZ (cset u 20 (fun _ => p0))) H := hP
  have hD : va_D A (mw am cI cZ (cset u 20 (fun _ => p0))) := hD
  rw [← eu1] at hP hD
  have hw := stF.go hw u1 eu1
  refine lv_aload_n hx hb dX3_holeAt_5 rfl (lv_at hl 0 rfl) ?_
  refine lv_iload_n hx hb dX3_holeAt_6 rfl (lv_at hl 2 rfl) ?_
  obtain ⟨hz, hw⟩ := hw
  refine va_put (D := G) (ci := 3) (v := .int p1) (ty := .boolean) (C := RX3) (T := TX3) (N := 24) hx hb hts hiX3 tyX3 tyX3_ok nmX3 hown hK hP hD hS 0 rfl rfl 21 (by decide) (hts (.fieldLink RX3 84 "TreapVersionsModel" "holeRight" "Z") (by decide +kernel)) (fun _ h9 => h9) rfl (by decide +kernel) (isB_nar hz) (isB_fit hz) (Nat.le_of_ble_eq_true rfl) dX3_holeAt_7 (fun H locs hP hD hS => ?_)
  obtain ⟨u2, eu2⟩ : ∃ z : CS, z = cset u1 21 (fun _ => p1) := ⟨_, rfl⟩
  have hP : va_P G vwCl (mw am cI cZ (cset u1 21 (fun _ => p1))) H := hP
  have hD : va_D A (mw am cI cZ (cset u1 21 (fun _ => p1))) := hD
  rw [← eu2] at hP hD
  have hw := stF.go hw u2 eu2
  exact hret u2 10 _ _ _ dX3_holeAt_10 hw hP hD hS
set_option maxHeartbeats 4000000 in
set_option maxRecDepth 100000 in
theorem c_X3_go (l : Launch) (G : va_G) (am : Nat → Nat) (cI cZ : ClassId) (p0 : Int32) (p1 : Int32) (p2 : Int32) (u : CS) (post : CS → Prop) (hw : wp_X3_go p0 p1 p2 u post) : CtV l yX3_go wsX3_go ({ frames := 0, cells := 0, slots := 0, locals := 0 }) G (ty2 cI cZ) (mw am cI cZ) [.ref (am 0), .int p0, .int p1, .int p2] u post := by
  refine CtV.of (cc := cX3_go) (maxL := 6) (by decide) rfl (Nat.le_of_ble_eq_true rfl) ?_
  intro p e s m below meth c A Q hx hb hml hts hown hK hA hret ls hl hP hD hS
  have hiX3 : ∀ w ∈ u_ws RX3 TX3 24, w ∈ wsX3_go := by decide +kernel
  have hown : s.vm.findClass RX3 = some m.cls := hown
  have hl : lv_has ls 6 [(0, .ref (am 0)), (1, .int p0), (2, .int p1), (3, .int p2)] := hl
  have hlp8 : ∀ (n : Nat) (a2 : Int32) (a3 : Int32) (a4 : Int32) (u : CS), lp_X3_go_8 post n a2 a3 a4 u → ∀ (H : Heap) (locs : List Loc), va_P G vwCl (mw am cI cZ u) H → va_D A (mw am cI cZ u) → va_S A s.heap H locs → ∀ ls : Array Slot, lv_has ls 6 [(0, .ref (am 0)), (2, .int a2), (3, .int a3), (4, .int a4)] → W p l e ({ frames := 0, cells := 0, slots := 0, locals := 0 }) s m ([.ref (am 0), .int p0, .int p1, .int p2] : List Value).toArray below meth c H locs 0 0 Q (F0 m 8 ls []) := by
    clear hw hl hP hD hS
    intro n
    induction n with
    | zero => intro a2 a3 a4 u hw; exact False.elim hw
    | succ n ih =>
      intro a2 a3 a4 u hw H locs hP hD hS ls hl
      unfold lp_X3_go_8 at hw
      refine lv_iload hx hb dX3_go_8 (lv_at hl 3 rfl) ?_
      refine lv_if_lt (tgt := 98) hx hb dX3_go_10 (by decide) (fun c2 => ?_) (fun c2 => ?_)
      · have hw := brN.t hw c2
        exact hret u 98 _ _ _ dX3_go_98 hw hP hD hS
      · have hw := brN.f hw c2
        refine lv_aload_n hx hb dX3_go_13 rfl (lv_at hl 0 rfl) ?_
        refine va_get (D := G) (ci := 3) (v := .ref (am 11)) (C := RX3) (T := TX3) (N := 24) hx hb hts hiX3 hown hK hP 0 rfl rfl 23 (by decide) (hts (.fieldLink RX3 41 "TreapVersionsModel" "way" "[I") (by decide +kernel)) (fun _ h9 => h9) rfl dX3_go_14 ?_
        refine lv_aload_n hx hb dX3_go_17 rfl (lv_at hl 0 rfl) ?_
        refine va_get (D := G) (ci := 3) (v := .int (u 22 0)) (C := RX3) (T := TX3) (N := 24) hx hb hts hiX3 hown hK hP 0 rfl rfl 22 (by decide) (hts (.fieldLink RX3 88 "TreapVersionsModel" "steps" "I") (by decide +kernel)) (fun _ h9 => h9) rfl dX3_go_18 ?_
        refine lv_topi (fun z3 ez3 => ?_)
        have hw := nmI.go hw z3 ez3
        refine lv_iload hx hb dX3_go_21 (lv_at hl 3 rfl) ?_
        refine va_iast hx hb hK hP hD hS 11 0 rfl rfl (wrA.hin hw) dX3_go_23 (fun H locs hP hD hS => ?_)
        obtain ⟨u4, eu4⟩ : ∃ z : CS, z = cset u 23 (upd (u 23) z3.toNatClampNeg a4) := ⟨_, rfl⟩
        have hP : va_P G vwCl (mw am cI cZ (cset u 23 (upd (u 23) z3.toNatClampNeg a4))) H := hP
        have hD : va_D A (mw am cI cZ (cset u 23 (upd (u 23) z3.toNatClampNeg a4))) := hD
        rw [← eu4] at hP hD
        have hw := wrA.go hw u4 eu4
        refine lv_aload_n hx hb dX3_go_24 rfl (lv_at hl 0 rfl) ?_
        refine lv_dup hx hb dX3_go_25 rfl ?_
        refine va_get (D := G) (ci := 3) (v := .int (u4 22 0)) (C := RX3) (T := TX3) (N := 24) hx hb hts hiX3 hown hK hP 0 rfl rfl 22 (by decide) (hts (.fieldLink RX3 88 "TreapVersionsModel" "steps" "I") (by decide +kernel)) (fun _ h9 => h9) rfl dX3_go_26 ?_
        refine lv_topi (fun z5 ez5 => ?_)
        have hw := nmI.go hw z5 ez5
        refine lv_iconst (v := 1) hx hb dX3_go_29 (by decide) ?_
        refine lv_iadd hx hb dX3_go_30 ?_
        refine lv_topi (fun z6 ez6 => ?_)
        have hw := nmI.go hw z6 ez6
        refine va_put (D := G) (ci := 3) (v := .int z6) (ty := .int) (C := RX3) (T := TX3) (N := 24) hx hb hts hiX3 tyX3 tyX3_ok nmX3 hown hK hP hD hS 0 rfl rfl 22 (by decide) (hts (.fieldLink RX3 88 "TreapVersionsModel" "steps" "I") (by decide +kernel)) (fun _ h9 => h9) rfl (by decide +kernel) rfl rfl (Nat.le_of_ble_eq_true rfl) dX3_go_31 (fun H locs hP hD hS => ?_)
        obtain ⟨u7, eu7⟩ : ∃ z : CS, z = cset u4 22 (fun _ => z6) := ⟨_, rfl⟩
        have hP : va_P G vwCl (mw am cI cZ (cset u4 22 (fun _ => z6))) H := hP
        have hD : va_D A (mw am cI cZ (cset u4 22 (fun _ => z6))) := hD
        rw [← eu7] at hP hD
        have hw := stF.go hw u7 eu7
        refine lv_iload_n hx hb dX3_go_34 rfl (lv_at hl 2 rfl) ?_
        refine lv_if_eq (tgt := 53) hx hb dX3_go_35 (by decide) (fun c8 => ?_) (fun c8 => ?_)
        · have hw := brN.t hw c8
          refine lv_iconst (v := 0) hx hb dX3_go_53 (by decide) ?_
          refine lv_istore (lv' := [(5, .int 0), (0, .ref (am 0)), (2, .int a2), (3, .int a3), (4, .int a4)]) hx hb dX3_go_54 hl (by decide) rfl (fun ls hl => ?_)
          refine lv_iload hx hb dX3_go_56 (lv_at hl 0 rfl) ?_
          refine lv_if_eq (tgt := 65) hx hb dX3_go_58 (by decide) (fun c9 => ?_) (fun c9 => ?_)
          · refine lv_aload_n hx hb dX3_go_65 rfl (lv_at hl 1 rfl) ?_
            refine va_get (D := G) (ci := 3) (v := .ref (am 1)) (C := RX3) (T := TX3) (N := 24) hx hb hts hiX3 hown hK hP 0 rfl rfl 6 (by decide) (hts (.fieldLink RX3 7 "TreapVersionsModel" "key" "[I") (by decide +kernel)) (fun _ h9 => h9) rfl dX3_go_66 ?_
            refine lv_iload hx hb dX3_go_69 (lv_at hl 4 rfl) ?_
            refine va_iald hx hb hK hP 1 0 rfl rfl (rdA.hin hw) dX3_go_71 ?_
            refine lv_topi (fun z10 ez10 => ?_)
            have hw := rdA.go hw z10 ez10
            refine lv_iload_n hx hb dX3_go_72 rfl (lv_at hl 2 rfl) ?_
            refine lv_icmp_ge (tgt := 86) hx hb dX3_go_73 (by decide) (fun c11 => ?_) (fun c11 => ?_)
            · have hw := brN.t hw c11
              refine lv_aload_n hx hb dX3_go_86 rfl (lv_at hl 1 rfl) ?_
              refine va_get (D := G) (ci := 3) (v := .ref (am 4)) (C := RX3) (T := TX3) (N := 24) hx hb hts hiX3 hown hK hP 0 rfl rfl 9 (by decide) (hts (.fieldLink RX3 19 "TreapVersionsModel" "left" "[I") (by decide +kernel)) (fun _ h9 => h9) rfl dX3_go_87 ?_
              refine lv_iload hx hb dX3_go_90 (lv_at hl 4 rfl) ?_
              refine va_iald hx hb hK hP 4 0 rfl rfl (rdA.hin hw) dX3_go_92 ?_
              refine lv_topi (fun z12 ez12 => ?_)
              have hw := rdA.go hw z12 ez12
              refine lv_istore (lv' := [(4, .int z12), (5, .int 0), (0, .ref (am 0)), (2, .int a2), (3, .int a3)]) hx hb dX3_go_93 hl (by decide) rfl (fun ls hl => ?_)
              refine lv_goto (tgt := 8) hx hb dX3_go_95 (by decide) ?_
              exact ih a2 a3 z12 u7 hw _ _ hP hD hS _ (lv_sub hl [2, 3, 4, 0] rfl)
            · have hw := brN.f hw c11
              refine lv_aload_n hx hb dX3_go_76 rfl (lv_at hl 1 rfl) ?_
              refine va_get (D := G) (ci := 3) (v := .ref (am 5)) (C := RX3) (T := TX3) (N := 24) hx hb hts hiX3 hown hK hP 0 rfl rfl 10 (by decide) (hts (.fieldLink RX3 22 "TreapVersionsModel" "right" "[I") (by decide +kernel)) (fun _ h9 => h9) rfl dX3_go_77 ?_
              refine lv_iload hx hb dX3_go_80 (lv_at hl 4 rfl) ?_
              refine va_iald hx hb hK hP 5 0 rfl rfl (rdA.hin hw) dX3_go_82 ?_
              refine lv_topi (fun z13 ez13 => ?_)
              have hw := rdA.go hw z13 ez13
              refine lv_goto (tgt := 93) hx hb dX3_go_83 (by decide) ?_
              refine lv_istore (lv' := [(4, .int z13), (5, .int 0), (0, .ref (am 0)), (2, .int a2), (3, .int a3)]) hx hb dX3_go_93 hl (by decide) rfl (fun ls hl => ?_)
              refine lv_goto (tgt := 8) hx hb dX3_go_95 (by decide) ?_
              exact ih a2 a3 z13 u7 hw _ _ hP hD hS _ (lv_sub hl [2, 3, 4, 0] rfl)
          · exact absurd (by decide) c9
        · have hw := brN.f hw c8
          refine lv_aload_n hx hb dX3_go_38 rfl (lv_at hl 0 rfl) ?_
          refine va_get (D := G) (ci := 3) (v := .ref (am 1)) (C := RX3) (T := TX3) (N := 24) hx hb hts hiX3 hown hK hP 0 rfl rfl 6 (by decide) (hts (.fieldLink RX3 7 "TreapVersionsModel" "key" "[I") (by decide +kernel)) (fun _ h9 => h9) rfl dX3_go_39 ?_
          refine lv_iload hx hb dX3_go_42 (lv_at hl 3 rfl) ?_
          refine va_iald hx hb hK hP 1 0 rfl rfl (rdA.hin hw) dX3_go_44 ?_
          refine lv_topi (fun z14 ez14 => ?_)
          have hw := rdA.go hw z14 ez14
          refine lv_iload_n hx hb dX3_go_45 rfl (lv_at hl 1 rfl) ?_
          refine lv_icmp_ne (tgt := 53) hx hb dX3_go_46 (by decide) (fun c15 => ?_) (fun c15 => ?_)
          · have hw := brN.f hw c15
            refine lv_iconst (v := 0) hx hb dX3_go_53 (by decide) ?_
            refine lv_istore (lv' := [(5, .int 0), (0, .ref (am 0)), (2, .int a2), (3, .int a3), (4, .int a4)]) hx hb dX3_go_54 hl (by decide) rfl (fun ls hl => ?_)
            refine lv_iload hx hb dX3_go_56 (lv_at hl 0 rfl) ?_
            refine lv_if_eq (tgt := 65) hx hb dX3_go_58 (by decide) (fun c16 => ?_) (fun c16 => ?_)
            · refine lv_aload_n hx hb dX3_go_65 rfl (lv_at hl 1 rfl) ?_
              refine va_get (D := G) (ci := 3) (v := .ref (am 1)) (C := RX3) (T := TX3) (N := 24) hx hb hts hiX3 hown hK hP 0 rfl rfl 6 (by decide) (hts (.fieldLink RX3 7 "TreapVersionsModel" "key" "[I") (by decide +kernel)) (fun _ h9 => h9) rfl dX3_go_66 ?_
              refine lv_iload hx hb dX3_go_69 (lv_at hl 4 rfl) ?_
              refine va_iald hx hb hK hP 1 0 rfl rfl (rdA.hin hw) dX3_go_71 ?_
              refine lv_topi (fun z17 ez17 => ?_)
              have hw := rdA.go hw z17 ez17
              refine lv_iload_n hx hb dX3_go_72 rfl (lv_at hl 2 rfl) ?_
              refine lv_icmp_ge (tgt := 86) hx hb dX3_go_73 (by decide) (fun c18 => ?_) (fun c18 => ?_)
              · have hw := brN.t hw c18
                refine lv_aload_n hx hb dX3_go_86 rfl (lv_at hl 1 rfl) ?_
                refine va_get (D := G) (ci := 3) (v := .ref (am 4)) (C := RX3) (T := TX3) (N := 24) hx hb hts hiX3 hown hK hP 0 rfl rfl 9 (by decide) (hts (.fieldLink RX3 19 "TreapVersionsModel" "left" "[I") (by decide +kernel)) (fun _ h9 => h9) rfl dX3_go_87 ?_
                refine lv_iload hx hb dX3_go_90 (lv_at hl 4 rfl) ?_
                refine va_iald hx hb hK hP 4 0 rfl rfl (rdA.hin hw) dX3_go_92 ?_
                refine lv_topi (fun z19 ez19 => ?_)
                have hw := rdA.go hw z19 ez19
                refine lv_istore (lv' := [(4, .int z19), (5, .int 0), (0, .ref (am 0)), (2, .int a2), (3, .int a3)]) hx hb dX3_go_93 hl (by decide) rfl (fun ls hl => ?_)
                refine lv_goto (tgt := 8) hx hb dX3_go_95 (by decide) ?_
                exact ih a2 a3 z19 u7 hw _ _ hP hD hS _ (lv_sub hl [2, 3, 4, 0] rfl)
              · have hw := brN.f hw c18
                refine lv_aload_n hx hb dX3_go_76 rfl (lv_at hl 1 rfl) ?_
                refine va_get (D := G) (ci := 3) (v := .ref (am 5)) (C := RX3) (T := TX3) (N := 24) hx hb hts hiX3 hown hK hP 0 rfl rfl 10 (by decide) (hts (.fieldLink RX3 22 "TreapVersionsModel" "right" "[I") (by decide +kernel)) (fun _ h9 => h9) rfl dX3_go_77 ?_
                refine lv_iload hx hb dX3_go_80 (lv_at hl 4 rfl) ?_
                refine va_iald hx hb hK hP 5 0 rfl rfl (rdA.hin hw) dX3_go_82 ?_
                refine lv_topi (fun z20 ez20 => ?_)
                have hw := rdA.go hw z20 ez20
                refine lv_goto (tgt := 93) hx hb dX3_go_83 (by decide) ?_
                refine lv_istore (lv' := [(4, .int z20), (5, .int 0), (0, .ref (am 0)), (2, .int a2), (3, .int a3)]) hx hb dX3_go_93 hl (by decide) rfl (fun ls hl => ?_)
                refine lv_goto (tgt := 8) hx hb dX3_go_95 (by decide) ?_
                exact ih a2 a3 z20 u7 hw _ _ hP hD hS _ (lv_sub hl [2, 3, 4, 0] rfl)
            · exact absurd (by decide) c16
          · have hw := brN.t hw c15
            refine lv_iconst (v := 1) hx hb dX3_go_49 (by decide) ?_
            refine lv_goto (tgt := 54) hx hb dX3_go_50 (by decide) ?_
            refine lv_istore (lv' := [(5, .int 1), (0, .ref (am 0)), (2, .int a2), (3, .int a3), (4, .int a4)]) hx hb dX3_go_54 hl (by decide) rfl (fun ls hl => ?_)
            refine lv_iload hx hb dX3_go_56 (lv_at hl 0 rfl) ?_
            refine lv_if_eq (tgt := 65) hx hb dX3_go_58 (by decide) (fun c21 => ?_) (fun c21 => ?_)
            · exact absurd c21 (by decide)
            · refine lv_iconst (v := (-1)) hx hb dX3_go_61 (by decide) ?_
              refine lv_goto (tgt := 93) hx hb dX3_go_62 (by decide) ?_
              refine lv_istore (lv' := [(4, .int (-1)), (5, .int 1), (0, .ref (am 0)), (2, .int a2), (3, .int a3)]) hx hb dX3_go_93 hl (by decide) rfl (fun ls hl => ?_)
              refine lv_goto (tgt := 8) hx hb dX3_go_95 (by decide) ?_
              exact ih a2 a3 (-1) u7 hw _ _ hP hD hS _ (lv_sub hl [2, 3, 4, 0] rfl)
  unfold wp_X3_go at hw
  refine lv_aload_n hx hb dX3_go_0 rfl (lv_at hl 0 rfl) ?_
  refine lv_iconst (v := 0) hx hb dX3_go_1 (by decide) ?_
  refine va_put (D := G) (ci := 3) (v := .int 0) (ty := .int) (C := RX3) (T := TX3) (N := 24) hx hb hts hiX3 tyX3 tyX3_ok nmX3 hown hK hP hD hS 0 rfl rfl 22 (by decide) (hts (.fieldLink RX3 88 "TreapVersionsModel" "steps" "I") (by decide +kernel)) (fun _ h9 => h9) rfl (by decide +kernel) rfl rfl (Nat.le_of_ble_eq_true rfl) dX3_go_2 (fun H locs hP hD hS => ?_)
  obtain ⟨u1, eu1⟩ : ∃ z : CS, z = cset u 22 (fun _ => 0) := ⟨_, rfl⟩
  have hP : va_P G vwCl (mw am cI cZ (cset u 22 (fun _ => 0))) H := hP
  have hD : va_D A (mw am cI cZ (cset u 22 (fun _ => 0))) := hD
  rw [← eu1] at hP hD
  have hw := stF.go hw u1 eu1
  refine lv_iload_n hx hb dX3_go_5 rfl (lv_at hl 1 rfl) ?_
  refine lv_istore (lv' := [(4, .int p0), (0, .ref (am 0)), (1, .int p0), (2, .int p1), (3, .int p2)]) hx hb dX3_go_6 hl (by decide) rfl (fun ls hl => ?_)
  obtain ⟨n9, hw⟩ := hw
  exact hlp8 n9 p1 p2 p0 u1 hw _ _ hP hD hS _ (lv_sub hl [1, 3, 4, 0] rfl)
set_option maxHeartbeats 4000000 in
set_option maxRecDepth 100000 in
theorem c_X3_find (l : Launch) (G : va_G) (am : Nat → Nat) (cI cZ : ClassId) (p0 : Int32) (p1 : Int32) (u : CS) (post : Int32 → CS → Prop) (hw : wp_X3_find p0 p1 u post) : CtI l yX3_find wsX3_find ({ frames := 0, cells := 0, slots := 0, locals := 0 }) G (ty2 cI cZ) (mw am cI cZ) [.ref (am 0), .int p0, .int p1] u post := by
  refine CtI.of (cc := cX3_find) (maxL := 4) (rt := .int) (by decide) rfl (Nat.le_of_ble_eq_true rfl) ?_
  intro p e s m below meth c A Q hx hb hml hts hown hK hA hret ls hl hP hD hS
  have hiX3 : ∀ w ∈ u_ws RX3 TX3 24, w ∈ wsX3_find := by decide +kernel
  have hown : s.vm.findClass RX3 = some m.cls := hown
  have hl : lv_has ls 4 [(0, .ref (am 0)), (1, .int p0), (2, .int p1)] := hl
  have hlp2 : ∀ (n : Nat) (a2 : Int32) (a3 : Int32) (u : CS), lp_X3_find_2 post n a2 a3 u → ∀ (H : Heap) (locs : List Loc), va_P G vwCl (mw am cI cZ u) H → va_D A (mw am cI cZ u) → va_S A s.heap H locs → ∀ ls : Array Slot, lv_has ls 4 [(0, .ref (am 0)), (2, .int a2), (3, .int a3)] → W p l e ({ frames := 0, cells := 0, slots := 0, locals := 0 }) s m ([.ref (am 0), .int p0, .int p1] : List Value).toArray below meth c H locs 0 0 Q (F0 m 2 ls []) := by
    clear hw hl hP hD hS
    intro n
    induction n with
    | zero => intro a2 a3 u hw; exact False.elim hw
    | succ n ih =>
      intro a2 a3 u hw H locs hP hD hS ls hl
      unfold lp_X3_find_2 at hw
      refine lv_iload_n hx hb dX3_find_2 rfl (lv_at hl 2 rfl) ?_
      refine lv_if_lt (tgt := 45) hx hb dX3_find_3 (by decide) (fun c1 => ?_) (fun c1 => ?_)
      · have hw := brN.t hw c1
        refine lv_iload_n hx hb dX3_find_45 rfl (lv_at hl 2 rfl) ?_
        exact hret a3 u 46 _ _ _ dX3_find_46 rfl hw hP hD hS
      · have hw := brN.f hw c1
        refine lv_aload_n hx hb dX3_find_6 rfl (lv_at hl 0 rfl) ?_
        refine va_get (D := G) (ci := 3) (v := .ref (am 1)) (C := RX3) (T := TX3) (N := 24) hx hb hts hiX3 hown hK hP 0 rfl rfl 6 (by decide) (hts (.fieldLink RX3 7 "TreapVersionsModel" "key" "[I") (by decide +kernel)) (fun _ h9 => h9) rfl dX3_find_7 ?_
        refine lv_iload_n hx hb dX3_find_10 rfl (lv_at hl 2 rfl) ?_
        refine va_iald hx hb hK hP 1 0 rfl rfl (rdA.hin hw) dX3_find_11 ?_
        refine lv_topi (fun z2 ez2 => ?_)
        have hw := rdA.go hw z2 ez2
        refine lv_iload_n hx hb dX3_find_12 rfl (lv_at hl 1 rfl) ?_
        refine lv_icmp_eq (tgt := 45) hx hb dX3_find_13 (by decide) (fun c3 => ?_) (fun c3 => ?_)
        · have hw := brN.t hw c3
          refine lv_iload_n hx hb dX3_find_45 rfl (lv_at hl 2 rfl) ?_
          exact hret a3 u 46 _ _ _ dX3_find_46 rfl hw hP hD hS
        · have hw := brN.f hw c3
          refine lv_aload_n hx hb dX3_find_16 rfl (lv_at hl 0 rfl) ?_
          refine va_get (D := G) (ci := 3) (v := .ref (am 1)) (C := RX3) (T := TX3) (N := 24) hx hb hts hiX3 hown hK hP 0 rfl rfl 6 (by decide) (hts (.fieldLink RX3 7 "TreapVersionsModel" "key" "[I") (by decide +kernel)) (fun _ h9 => h9) rfl dX3_find_17 ?_
          refine lv_iload_n hx hb dX3_find_20 rfl (lv_at hl 2 rfl) ?_
          refine va_iald hx hb hK hP 1 0 rfl rfl (rdA.hin hw) dX3_find_21 ?_
          refine lv_topi (fun z4 ez4 => ?_)
          have hw := rdA.go hw z4 ez4
          refine lv_iload_n hx hb dX3_find_22 rfl (lv_at hl 1 rfl) ?_
          refine lv_icmp_ge (tgt := 35) hx hb dX3_find_23 (by decide) (fun c5 => ?_) (fun c5 => ?_)
          · have hw := brN.t hw c5
            refine lv_aload_n hx hb dX3_find_35 rfl (lv_at hl 0 rfl) ?_
            refine va_get (D := G) (ci := 3) (v := .ref (am 4)) (C := RX3) (T := TX3) (N := 24) hx hb hts hiX3 hown hK hP 0 rfl rfl 9 (by decide) (hts (.fieldLink RX3 19 "TreapVersionsModel" "left" "[I") (by decide +kernel)) (fun _ h9 => h9) rfl dX3_find_36 ?_
            refine lv_iload_n hx hb dX3_find_39 rfl (lv_at hl 2 rfl) ?_
            refine va_iald hx hb hK hP 4 0 rfl rfl (rdA.hin hw) dX3_find_40 ?_
            refine lv_topi (fun z6 ez6 => ?_)
            have hw := rdA.go hw z6 ez6
            refine lv_istore_n (lv' := [(3, .int z6), (0, .ref (am 0)), (2, .int a2)]) hx hb dX3_find_41 rfl hl (by decide) rfl (fun ls hl => ?_)
            refine lv_goto (tgt := 2) hx hb dX3_find_42 (by decide) ?_
            exact ih a2 z6 u hw _ _ hP hD hS _ (lv_sub hl [1, 2, 0] rfl)
          · have hw := brN.f hw c5
            refine lv_aload_n hx hb dX3_find_26 rfl (lv_at hl 0 rfl) ?_
            refine va_get (D := G) (ci := 3) (v := .ref (am 5)) (C := RX3) (T := TX3) (N := 24) hx hb hts hiX3 hown hK hP 0 rfl rfl 10 (by decide) (hts (.fieldLink RX3 22 "TreapVersionsModel" "right" "[I") (by decide +kernel)) (fun _ h9 => h9) rfl dX3_find_27 ?_
            refine lv_iload_n hx hb dX3_find_30 rfl (lv_at hl 2 rfl) ?_
            refine va_iald hx hb hK hP 5 0 rfl rfl (rdA.hin hw) dX3_find_31 ?_
            refine lv_topi (fun z7 ez7 => ?_)
            have hw := rdA.go hw z7 ez7
            refine lv_goto (tgt := 41) hx hb dX3_find_32 (by decide) ?_
            refine lv_istore_n (lv' := [(3, .int z7), (0, .ref (am 0)), (2, .int a2)]) hx hb dX3_find_41 rfl hl (by decide) rfl (fun ls hl => ?_)
            refine lv_goto (tgt := 2) hx hb dX3_find_42 (by decide) ?_
            exact ih a2 z7 u hw _ _ hP hD hS _ (lv_sub hl [1, 2, 0] rfl)
  unfold wp_X3_find at hw
  refine lv_iload_n hx hb dX3_find_0 rfl (lv_at hl 1 rfl) ?_
  refine lv_istore_n (lv' := [(3, .int p0), (0, .ref (am 0)), (1, .int p0), (2, .int p1)]) hx hb dX3_find_1 rfl hl (by decide) rfl (fun ls hl => ?_)
  obtain ⟨n9, hw⟩ := hw
  exact hlp2 n9 p1 p0 u hw _ _ hP hD hS _ (lv_sub hl [1, 3, 0] rfl)
set_option maxHeartbeats 4000000 in
set_option maxRecDepth 100000 in
theorem c_X3_freeHandle (l : Launch) (G : va_G) (am : Nat → Nat) (cI cZ : ClassId) (u : CS) (post : Int32 → CS → Prop) (hw : wp_X3_freeHandle u post) : CtI l yX3_freeHandle wsX3_freeHandle ({ frames := 0, cells := 0, slots := 0, locals := 0 }) G (ty2 cI cZ) (mw am cI cZ) [.ref (am 0)] u post := by
  refine CtI.of (cc := cX3_freeHandle) (maxL := 2) (rt := .int) (by decide) rfl (Nat.le_of_ble_eq_true rfl) ?_
  intro p e s m below meth c A Q hx hb hml hts hown hK hA hret ls hl hP hD hS
  have hiX3 : ∀ w ∈ u_ws RX3 TX3 24, w ∈ wsX3_freeHandle := by decide +kernel
  have hown : s.vm.findClass RX3 = some m.cls := hown
  have hl : lv_has ls 2 [(0, .ref (am 0))] := hl
  have hlp2 : ∀ (n : Nat) (a1 : Int32) (u : CS), lp_X3_freeHandle_2 post n a1 u → ∀ (H : Heap) (locs : List Loc), va_P G vwCl (mw am cI cZ u) H → va_D A (mw am cI cZ u) → va_S A s.heap H locs → ∀ ls : Array Slot, lv_has ls 2 [(0, .ref (am 0)), (1, .int a1)] → W p l e ({ frames := 0, cells := 0, slots := 0, locals := 0 }) s m ([.ref (am 0)] : List Value).toArray below meth c H locs 0 0 Q (F0 m 2 ls []) := by
    clear hw hl hP hD hS
    intro n
    induction n with
    | zero => intro a1 u hw; exact False.elim hw
    | succ n ih =>
      intro a1 u hw H locs hP hD hS ls hl
      unfold lp_X3_freeHandle_2 at hw
      refine lv_iload_n hx hb dX3_freeHandle_2 rfl (lv_at hl 1 rfl) ?_
      refine lv_aload_n hx hb dX3_freeHandle_3 rfl (lv_at hl 0 rfl) ?_
      refine va_get (D := G) (ci := 3) (v := .int (u 2 0)) (C := RX3) (T := TX3) (N := 24) hx hb hts hiX3 hown hK hP 0 rfl rfl 2 (by decide) (hts (.fieldLink RX3 48 "TreapVersionsModel" "versions" "I") (by decide +kernel)) (fun _ h9 => h9) rfl dX3_freeHandle_4 ?_
      refine lv_topi (fun z1 ez1 => ?_)
      have hw := nmI.go hw z1 ez1
      refine lv_icmp_ge (tgt := 25) hx hb dX3_freeHandle_7 (by decide) (fun c2 => ?_) (fun c2 => ?_)
      · have hw := brN.t hw c2
        refine lv_iload_n hx hb dX3_freeHandle_25 rfl (lv_at hl 1 rfl) ?_
        refine lv_aload_n hx hb dX3_freeHandle_26 rfl (lv_at hl 0 rfl) ?_
        refine va_get (D := G) (ci := 3) (v := .int (u 2 0)) (C := RX3) (T := TX3) (N := 24) hx hb hts hiX3 hown hK hP 0 rfl rfl 2 (by decide) (hts (.fieldLink RX3 48 "TreapVersionsModel" "versions" "I") (by decide +kernel)) (fun _ h9 => h9) rfl dX3_freeHandle_27 ?_
        refine lv_topi (fun z3 ez3 => ?_)
        have hw := nmI.go hw z3 ez3
        refine lv_icmp_ge (tgt := 37) hx hb dX3_freeHandle_30 (by decide) (fun c4 => ?_) (fun c4 => ?_)
        · have hw := brN.t hw c4
          refine lv_iconst (v := (-1)) hx hb dX3_freeHandle_37 (by decide) ?_
          exact hret (-1) u 38 _ _ _ dX3_freeHandle_38 rfl hw hP hD hS
        · have hw := brN.f hw c4
          refine lv_iload_n hx hb dX3_freeHandle_33 rfl (lv_at hl 1 rfl) ?_
          refine lv_goto (tgt := 38) hx hb dX3_freeHandle_34 (by decide) ?_
          exact hret a1 u 38 _ _ _ dX3_freeHandle_38 rfl hw hP hD hS
      · have hw := brN.f hw c2
        refine lv_aload_n hx hb dX3_freeHandle_10 rfl (lv_at hl 0 rfl) ?_
        refine va_get (D := G) (ci := 3) (v := .ref (am 9)) (C := RX3) (T := TX3) (N := 24) hx hb hts hiX3 hown hK hP 0 rfl rfl 15 (by decide) (hts (.fieldLink RX3 35 "TreapVersionsModel" "isLive" "[Z") (by decide +kernel)) (fun _ h9 => h9) rfl dX3_freeHandle_11 ?_
        refine lv_iload_n hx hb dX3_freeHandle_14 rfl (lv_at hl 1 rfl) ?_
        refine va_zald hx hb hK hP 9 1 rfl rfl (rdA.hin hw) dX3_freeHandle_15 ?_
        refine lv_topi (fun z5 ez5 => ?_)
        have hw := rdA.go hw z5 ez5
        refine lv_if_eq (tgt := 25) hx hb dX3_freeHandle_16 (by decide) (fun c6 => ?_) (fun c6 => ?_)
        · have hw := brN.t hw c6
          refine lv_iload_n hx hb dX3_freeHandle_25 rfl (lv_at hl 1 rfl) ?_
          refine lv_aload_n hx hb dX3_freeHandle_26 rfl (lv_at hl 0 rfl) ?_
          refine va_get (D := G) (ci := 3) (v := .int (u 2 0)) (C := RX3) (T := TX3) (N := 24) hx hb hts hiX3 hown hK hP 0 rfl rfl 2 (by decide) (hts (.fieldLink RX3 48 "TreapVersionsModel" "versions" "I") (by decide +kernel)) (fun _ h9 => h9) rfl dX3_freeHandle_27 ?_
          refine lv_topi (fun z7 ez7 => ?_)
          have hw := nmI.go hw z7 ez7
          refine lv_icmp_ge (tgt := 37) hx hb dX3_freeHandle_30 (by decide) (fun c8 => ?_) (fun c8 => ?_)
          · have hw := brN.t hw c8
            refine lv_iconst (v := (-1)) hx hb dX3_freeHandle_37 (by decide) ?_
            exact hret (-1) u 38 _ _ _ dX3_freeHandle_38 rfl hw hP hD hS
          · have hw := brN.f hw c8
            refine lv_iload_n hx hb dX3_freeHandle_33 rfl (lv_at hl 1 rfl) ?_
            refine lv_goto (tgt := 38) hx hb dX3_freeHandle_34 (by decide) ?_
            exact hret a1 u 38 _ _ _ dX3_freeHandle_38 rfl hw hP hD hS
        · have hw := brN.f hw c6
          obtain ⟨z9, ez9⟩ : ∃ y : Int32, y = a1 + 1 := ⟨_, rfl⟩
          have hw := nmI.go hw z9 ez9
          refine lv_iinc (v := z9) (lv' := [(1, .int z9), (0, .ref (am 0))]) hx hb dX3_freeHandle_19 hl (k := 1) rfl (by rw [ez9]; rfl) (by decide) rfl (fun ls hl => ?_)
          refine lv_goto (tgt := 2) hx hb dX3_freeHandle_22 (by decide) ?_
          exact ih z9 u hw _ _ hP hD hS _ (lv_sub hl [1, 0] rfl)
  unfold wp_X3_freeHandle at hw
  refine lv_iconst (v := 0) hx hb dX3_freeHandle_0 (by decide) ?_
  refine lv_istore_n (lv' := [(1, .int 0), (0, .ref (am 0))]) hx hb dX3_freeHandle_1 rfl hl (by decide) rfl (fun ls hl => ?_)
  obtain ⟨n9, hw⟩ := hw
  exact hlp2 n9 0 u hw _ _ hP hD hS _ (lv_sub hl [1, 0] rfl)
set_option maxHeartbeats 4000000 in
set_option maxRecDepth 100000 in
theorem c_X3_takes (l : Launch) (G : va_G) (am : Nat → Nat) (cI cZ : ClassId) (p0 : Int32) (u : CS) (post : Int32 → CS → Prop) (hw : wp_X3_takes p0 u post) : CtI l yX3_takes wsX3_takes ({ frames := 2, cells := 0, slots := 0, locals := 46 }) G (ty2 cI cZ) (mw am cI cZ) [.ref (am 0), .int p0] u (fun r u => isB r ∧ post r u) := by
  refine CtI.of (cc := cX3_takes) (maxL := 2) (rt := .boolean) (by decide) rfl (Nat.le_of_ble_eq_true rfl) ?_
  intro p e s m below meth c A Q hx hb hml hts hown hK hA hret ls hl hP hD hS
  have hiX3 : ∀ w ∈ u_ws RX3 TX3 24, w ∈ wsX3_takes := by decide +kernel
  have hown : s.vm.findClass RX3 = some m.cls := hown
  have hl : lv_has ls 2 [(0, .ref (am 0)), (1, .int p0)] := hl
  unfold wp_X3_takes at hw
  refine lv_aload_n hx hb dX3_takes_0 rfl (lv_at hl 0 rfl) ?_
  refine va_get (D := G) (ci := 3) (v := .int (u 4 0)) (C := RX3) (T := TX3) (N := 24) hx hb hts hiX3 hown hK hP 0 rfl rfl 4 (by decide) (hts (.fieldLink RX3 91 "TreapVersionsModel" "used" "I") (by decide +kernel)) (fun _ h9 => h9) rfl dX3_takes_1 ?_
  refine lv_topi (fun z1 ez1 => ?_)
  have hw := nmI.go hw z1 ez1
  refine lv_iload_n hx hb dX3_takes_4 rfl (lv_at hl 1 rfl) ?_
  refine lv_iadd hx hb dX3_takes_5 ?_
  refine lv_topi (fun z2 ez2 => ?_)
  have hw := nmI.go hw z2 ez2
  refine lv_aload_n hx hb dX3_takes_6 rfl (lv_at hl 0 rfl) ?_
  refine va_get (D := G) (ci := 3) (v := .int (u 1 0)) (C := RX3) (T := TX3) (N := 24) hx hb hts hiX3 hown hK hP 0 rfl rfl 1 (by decide) (hts (.fieldLink RX3 44 "TreapVersionsModel" "room" "I") (by decide +kernel)) (fun _ h9 => h9) rfl dX3_takes_7 ?_
  refine lv_topi (fun z3 ez3 => ?_)
  have hw := nmI.go hw z3 ez3
  refine lv_icmp_le (tgt := 31) hx hb dX3_takes_10 (by decide) (fun c4 => ?_) (fun c4 => ?_)
  · have hw := brN.t hw c4
    refine lv_aload_n hx hb dX3_takes_31 rfl (lv_at hl 0 rfl) ?_
    refine va_get (D := G) (ci := 3) (v := .int (u 4 0)) (C := RX3) (T := TX3) (N := 24) hx hb hts hiX3 hown hK hP 0 rfl rfl 4 (by decide) (hts (.fieldLink RX3 91 "TreapVersionsModel" "used" "I") (by decide +kernel)) (fun _ h9 => h9) rfl dX3_takes_32 ?_
    refine lv_topi (fun z5 ez5 => ?_)
    have hw := nmI.go hw z5 ez5
    refine lv_iload_n hx hb dX3_takes_35 rfl (lv_at hl 1 rfl) ?_
    refine lv_iadd hx hb dX3_takes_36 ?_
    refine lv_topi (fun z6 ez6 => ?_)
    have hw := nmI.go hw z6 ez6
    refine lv_aload_n hx hb dX3_takes_37 rfl (lv_at hl 0 rfl) ?_
    refine va_get (D := G) (ci := 3) (v := .int (u 1 0)) (C := RX3) (T := TX3) (N := 24) hx hb hts hiX3 hown hK hP 0 rfl rfl 1 (by decide) (hts (.fieldLink RX3 44 "TreapVersionsModel" "room" "I") (by decide +kernel)) (fun _ h9 => h9) rfl dX3_takes_38 ?_
    refine lv_topi (fun z7 ez7 => ?_)
    have hw := nmI.go hw z7 ez7
    refine lv_icmp_le (tgt := 46) hx hb dX3_takes_41 (by decide) (fun c8 => ?_) (fun c8 => ?_)
    · have hw := brN.t hw c8
      refine lv_aload_n hx hb dX3_takes_46 rfl (lv_at hl 0 rfl) ?_
      refine lv_aload_n hx hb dX3_takes_47 rfl (lv_at hl 0 rfl) ?_
      refine va_get (D := G) (ci := 3) (v := .int (u 4 0)) (C := RX3) (T := TX3) (N := 24) hx hb hts hiX3 hown hK hP 0 rfl rfl 4 (by decide) (hts (.fieldLink RX3 91 "TreapVersionsModel" "used" "I") (by decide +kernel)) (fun _ h9 => h9) rfl dX3_takes_48 ?_
      refine lv_topi (fun z9 ez9 => ?_)
      have hw := nmI.go hw z9 ez9
      refine lv_iload_n hx hb dX3_takes_51 rfl (lv_at hl 1 rfl) ?_
      refine lv_iadd hx hb dX3_takes_52 ?_
      refine lv_topi (fun z10 ez10 => ?_)
      have hw := nmI.go hw z10 ez10
      refine va_put (D := G) (ci := 3) (v := .int z10) (ty := .int) (C := RX3) (T := TX3) (N := 24) hx hb hts hiX3 tyX3 tyX3_ok nmX3 hown hK hP hD hS 0 rfl rfl 4 (by decide) (hts (.fieldLink RX3 91 "TreapVersionsModel" "used" "I") (by decide +kernel)) (fun _ h9 => h9) rfl (by decide +kernel) rfl rfl (Nat.le_of_ble_eq_true rfl) dX3_takes_53 (fun H locs hP hD hS => ?_)
      obtain ⟨u11, eu11⟩ : ∃ z : CS, z = cset u 4 (fun _ => z10) := ⟨_, rfl⟩
      have hP : va_P G vwCl (mw am cI cZ (cset u 4 (fun _ => z10))) H := hP
      have hD : va_D A (mw am cI cZ (cset u 4 (fun _ => z10))) := hD
      rw [← eu11] at hP hD
      have hw := stF.go hw u11 eu11
      refine lv_iconst (v := 1) hx hb dX3_takes_56 (by decide) ?_
      exact hret 1 u11 57 _ _ _ dX3_takes_57 rfl ⟨isB_1, hw⟩ hP hD hS
    · have hw := brN.f hw c8
      refine lv_iconst (v := 0) hx hb dX3_takes_44 (by decide) ?_
      exact hret 0 u 45 _ _ _ dX3_takes_45 rfl ⟨isB_0, hw⟩ hP hD hS
  · have hw := brN.f hw c4
    refine lv_aload_n hx hb dX3_takes_13 rfl (lv_at hl 0 rfl) ?_
    refine lv_aload_n hx hb dX3_takes_14 rfl (lv_at hl 0 rfl) ?_
    refine CtI.call (As := []) (rest := [.ref (am 0)]) (c_X3_markAll l G am cI cZ u _ hw) ⟨hx, hb, hml, hown, hts⟩ (cwV 0 hts gX3_takes_X3_markAll rfl rfl rfl (by decide +kernel) ⟨Nat.le_of_ble_eq_true rfl, Nat.le_of_ble_eq_true rfl⟩) (va_recv hK hP (ci := 3) (q0 := 0) rfl rfl) hK hP hD hS hA rfl hl.1 rfl (Nat.le_of_ble_eq_true rfl) dX3_takes_15 ⟨Nat.zero_le _, Nat.zero_le _⟩ (fun r13 u12 H locs hw hP hD hS => ?_)
    refine va_put (D := G) (ci := 3) (v := .int r13) (ty := .int) (C := RX3) (T := TX3) (N := 24) hx hb hts hiX3 tyX3 tyX3_ok nmX3 hown hK hP hD hS 0 rfl rfl 4 (by decide) (hts (.fieldLink RX3 91 "TreapVersionsModel" "used" "I") (by decide +kernel)) (fun _ h9 => h9) rfl (by decide +kernel) rfl rfl (Nat.le_of_ble_eq_true rfl) dX3_takes_18 (fun H locs hP hD hS => ?_)
    obtain ⟨u14, eu14⟩ : ∃ z : CS, z = cset u12 4 (fun _ => r13) := ⟨_, rfl⟩
    have hP : va_P G vwCl (mw am cI cZ (cset u12 4 (fun _ => r13))) H := hP
    have hD : va_D A (mw am cI cZ (cset u12 4 (fun _ => r13))) := hD
    rw [← eu14] at hP hD
    have hw := stF.go hw u14 eu14
    refine lv_aload_n hx hb dX3_takes_21 rfl (lv_at hl 0 rfl) ?_
    refine lv_dup hx hb dX3_takes_22 rfl ?_
    refine va_get (D := G) (ci := 3) (v := .int (u14 5 0)) (C := RX3) (T := TX3) (N := 24) hx hb hts hiX3 hown hK hP 0 rfl rfl 5 (by decide) (hts (.fieldLink RX3 94 "TreapVersionsModel" "sweeps" "I") (by decide +kernel)) (fun _ h9 => h9) rfl dX3_takes_23 ?_
    refine lv_topi (fun z15 ez15 => ?_)
    have hw := nmI.go hw z15 ez15
    refine lv_iconst (v := 1) hx hb dX3_takes_26 (by decide) ?_
    refine lv_iadd hx hb dX3_takes_27 ?_
    refine lv_topi (fun z16 ez16 => ?_)
    have hw := nmI.go hw z16 ez16
    refine va_put (D := G) (ci := 3) (v := .int z16) (ty := .int) (C := RX3) (T := TX3) (N := 24) hx hb hts hiX3 tyX3 tyX3_ok nmX3 hown hK hP hD hS 0 rfl rfl 5 (by decide) (hts (.fieldLink RX3 94 "TreapVersionsModel" "sweeps" "I") (by decide +kernel)) (fun _ h9 => h9) rfl (by decide +kernel) rfl rfl (Nat.le_of_ble_eq_true rfl) dX3_takes_28 (fun H locs hP hD hS => ?_)
    obtain ⟨u17, eu17⟩ : ∃ z : CS, z = cset u14 5 (fun _ => z16) := ⟨_, rfl⟩
    have hP : va_P G vwCl (mw am cI cZ (cset u14 5 (fun _ => z16))) H := hP
    have hD : va_D A (mw am cI cZ (cset u14 5 (fun _ => z16))) := hD
    rw [← eu17] at hP hD
    have hw := stF.go hw u17 eu17
    refine lv_aload_n hx hb dX3_takes_31 rfl (lv_at hl 0 rfl) ?_
    refine va_get (D := G) (ci := 3) (v := .int (u17 4 0)) (C := RX3) (T := TX3) (N := 24) hx hb hts hiX3 hown hK hP 0 rfl rfl 4 (by decide) (hts (.fieldLink RX3 91 "TreapVersionsModel" "used" "I") (by decide +kernel)) (fun _ h9 => h9) rfl dX3_takes_32 ?_
    refine lv_topi (fun z18 ez18 => ?_)
    have hw := nmI.go hw z18 ez18
    refine lv_iload_n hx hb dX3_takes_35 rfl (lv_at hl 1 rfl) ?_
    refine lv_iadd hx hb dX3_takes_36 ?_
    refine lv_topi (fun z19 ez19 => ?_)
    have hw := nmI.go hw z19 ez19
    refine lv_aload_n hx hb dX3_takes_37 rfl (lv_at hl 0 rfl) ?_
    refine va_get (D := G) (ci := 3) (v := .int (u17 1 0)) (C := RX3) (T := TX3) (N := 24) hx hb hts hiX3 hown hK hP 0 rfl rfl 1 (by decide) (hts (.fieldLink RX3 44 "TreapVersionsModel" "room" "I") (by decide +kernel)) (fun _ h9 => h9) rfl dX3_takes_38 ?_
    refine lv_topi (fun z20 ez20 => ?_)
    have hw := nmI.go hw z20 ez20
    refine lv_icmp_le (tgt := 46) hx hb dX3_takes_41 (by decide) (fun c21 => ?_) (fun c21 => ?_)
    · have hw := brN.t hw c21
      refine lv_aload_n hx hb dX3_takes_46 rfl (lv_at hl 0 rfl) ?_
      refine lv_aload_n hx hb dX3_takes_47 rfl (lv_at hl 0 rfl) ?_
      refine va_get (D := G) (ci := 3) (v := .int (u17 4 0)) (C := RX3) (T := TX3) (N := 24) hx hb hts hiX3 hown hK hP 0 rfl rfl 4 (by decide) (hts (.fieldLink RX3 91 "TreapVersionsModel" "used" "I") (by decide +kernel)) (fun _ h9 => h9) rfl dX3_takes_48 ?_
      refine lv_topi (fun z22 ez22 => ?_)
      have hw := nmI.go hw z22 ez22
      refine lv_iload_n hx hb dX3_takes_51 rfl (lv_at hl 1 rfl) ?_
      refine lv_iadd hx hb dX3_takes_52 ?_
      refine lv_topi (fun z23 ez23 => ?_)
      have hw := nmI.go hw z23 ez23
      refine va_put (D := G) (ci := 3) (v := .int z23) (ty := .int) (C := RX3) (T := TX3) (N := 24) hx hb hts hiX3 tyX3 tyX3_ok nmX3 hown hK hP hD hS 0 rfl rfl 4 (by decide) (hts (.fieldLink RX3 91 "TreapVersionsModel" "used" "I") (by decide +kernel)) (fun _ h9 => h9) rfl (by decide +kernel) rfl rfl (Nat.le_of_ble_eq_true rfl) dX3_takes_53 (fun H locs hP hD hS => ?_)
      obtain ⟨u24, eu24⟩ : ∃ z : CS, z = cset u17 4 (fun _ => z23) := ⟨_, rfl⟩
      have hP : va_P G vwCl (mw am cI cZ (cset u17 4 (fun _ => z23))) H := hP
      have hD : va_D A (mw am cI cZ (cset u17 4 (fun _ => z23))) := hD
      rw [← eu24] at hP hD
      have hw := stF.go hw u24 eu24
      refine lv_iconst (v := 1) hx hb dX3_takes_56 (by decide) ?_
      exact hret 1 u24 57 _ _ _ dX3_takes_57 rfl ⟨isB_1, hw⟩ hP hD hS
    · have hw := brN.f hw c21
      refine lv_iconst (v := 0) hx hb dX3_takes_44 (by decide) ?_
      exact hret 0 u17 45 _ _ _ dX3_takes_45 rfl ⟨isB_0, hw⟩ hP hD hS
set_option maxHeartbeats 4000000 in
set_option maxRecDepth 100000 in
theorem c_X3_settle (l : Launch) (G : va_G) (am : Nat → Nat) (cI cZ : ClassId) (p0 : Int32) (u : CS) (post : Int32 → CS → Prop) (hw : wp_X3_settle p0 u post) : CtI l yX3_settle wsX3_settle ({ frames := 3, cells := 0, slots := 0, locals := 67 }) G (ty2 cI cZ) (mw am cI cZ) [.ref (am 0), .int p0] u post := by
  refine CtI.of (cc := cX3_settle) (maxL := 2) (rt := .int) (by decide) rfl (Nat.le_of_ble_eq_true rfl) ?_
  intro p e s m below meth c A Q hx hb hml hts hown hK hA hret ls hl hP hD hS
  have hiX3 : ∀ w ∈ u_ws RX3 TX3 24, w ∈ wsX3_settle := by decide +kernel
  have hown : s.vm.findClass RX3 = some m.cls := hown
  have hl : lv_has ls 2 [(0, .ref (am 0)), (1, .int p0)] := hl
  unfold wp_X3_settle at hw
  refine lv_aload_n hx hb dX3_settle_0 rfl (lv_at hl 0 rfl) ?_
  refine lv_aload_n hx hb dX3_settle_1 rfl (lv_at hl 0 rfl) ?_
  refine va_get (D := G) (ci := 3) (v := .int (u 17 0)) (C := RX3) (T := TX3) (N := 24) hx hb hts hiX3 hown hK hP 0 rfl rfl 17 (by decide) (hts (.fieldLink RX3 68 "TreapVersionsModel" "fresh" "I") (by decide +kernel)) (fun _ h9 => h9) rfl dX3_settle_2 ?_
  refine lv_topi (fun z1 ez1 => ?_)
  have hw := nmI.go hw z1 ez1
  refine CtI.call (As := [.int z1]) (rest := []) (c_X3_takes l G am cI cZ z1 u _ hw) ⟨hx, hb, hml, hown, hts⟩ (cwV 1 hts gX3_settle_X3_takes rfl rfl rfl (by decide +kernel) ⟨Nat.le_of_ble_eq_true rfl, Nat.le_of_ble_eq_true rfl⟩) (va_recv hK hP (ci := 3) (q0 := 0) rfl rfl) hK hP hD hS hA rfl hl.1 rfl (Nat.le_of_ble_eq_true rfl) dX3_settle_5 ⟨Nat.zero_le _, Nat.zero_le _⟩ (fun r3 u2 H locs hw hP hD hS => ?_)
  obtain ⟨hz, hw⟩ := hw
  refine lv_if_ne (tgt := 14) hx hb dX3_settle_8 (by decide) (fun c4 => ?_) (fun c4 => ?_)
  · have hw := brN.f hw c4
    refine lv_aload_n hx hb dX3_settle_14 rfl (lv_at hl 0 rfl) ?_
    refine va_get (D := G) (ci := 3) (v := .ref (am 9)) (C := RX3) (T := TX3) (N := 24) hx hb hts hiX3 hown hK hP 0 rfl rfl 15 (by decide) (hts (.fieldLink RX3 35 "TreapVersionsModel" "isLive" "[Z") (by decide +kernel)) (fun _ h9 => h9) rfl dX3_settle_15 ?_
    refine lv_iload_n hx hb dX3_settle_18 rfl (lv_at hl 1 rfl) ?_
    refine lv_iconst (v := 1) hx hb dX3_settle_19 (by decide) ?_
    refine va_zast hx hb hK hP hD hS 9 1 rfl rfl (wrZ.hin hw) dX3_settle_20 (fun H locs hP hD hS => ?_)
    obtain ⟨u5, eu5⟩ : ∃ z : CS, z = cset u2 15 (upd (u2 15) p0.toNatClampNeg (vp_nar .boolean 1)) := ⟨_, rfl⟩
    have hP : va_P G vwCl (mw am cI cZ (cset u2 15 (upd (u2 15) p0.toNatClampNeg (vp_nar .boolean 1)))) H := hP
    have hD : va_D A (mw am cI cZ (cset u2 15 (upd (u2 15) p0.toNatClampNeg (vp_nar .boolean 1)))) := hD
    rw [← eu5] at hP hD
    have hw := wrZ.go hw u5 eu5
    refine lv_aload_n hx hb dX3_settle_21 rfl (lv_at hl 0 rfl) ?_
    refine va_get (D := G) (ci := 3) (v := .ref (am 10)) (C := RX3) (T := TX3) (N := 24) hx hb hts hiX3 hown hK hP 0 rfl rfl 16 (by decide) (hts (.fieldLink RX3 38 "TreapVersionsModel" "root" "[I") (by decide +kernel)) (fun _ h9 => h9) rfl dX3_settle_22 ?_
    refine lv_iload_n hx hb dX3_settle_25 rfl (lv_at hl 1 rfl) ?_
    refine lv_aload_n hx hb dX3_settle_26 rfl (lv_at hl 0 rfl) ?_
    refine va_get (D := G) (ci := 3) (v := .int (u5 19 0)) (C := RX3) (T := TX3) (N := 24) hx hb hts hiX3 hown hK hP 0 rfl rfl 19 (by decide) (hts (.fieldLink RX3 74 "TreapVersionsModel" "tree" "I") (by decide +kernel)) (fun _ h9 => h9) rfl dX3_settle_27 ?_
    refine lv_topi (fun z6 ez6 => ?_)
    have hw := nmI.go hw z6 ez6
    refine va_iast hx hb hK hP hD hS 10 0 rfl rfl (wrA.hin hw) dX3_settle_30 (fun H locs hP hD hS => ?_)
    obtain ⟨u7, eu7⟩ : ∃ z : CS, z = cset u5 16 (upd (u5 16) p0.toNatClampNeg z6) := ⟨_, rfl⟩
    have hP : va_P G vwCl (mw am cI cZ (cset u5 16 (upd (u5 16) p0.toNatClampNeg z6))) H := hP
    have hD : va_D A (mw am cI cZ (cset u5 16 (upd (u5 16) p0.toNatClampNeg z6))) := hD
    rw [← eu7] at hP hD
    have hw := wrA.go hw u7 eu7
    refine lv_iload_n hx hb dX3_settle_31 rfl (lv_at hl 1 rfl) ?_
    exact hret p0 u7 32 _ _ _ dX3_settle_32 rfl hw hP hD hS
  · have hw := brN.t hw c4
    refine lv_bipush (v := (-3)) hx hb dX3_settle_11 (by decide) ?_
    exact hret (-3) u2 13 _ _ _ dX3_settle_13 rfl hw hP hD hS
set_option maxHeartbeats 4000000 in
set_option maxRecDepth 100000 in
theorem c_X3_putValue (l : Launch) (G : va_G) (am : Nat → Nat) (cI cZ : ClassId) (p0 : Int32) (p1 : Int32) (u : CS) (post : CS → Prop) (hw : wp_X3_putValue p0 p1 u post) : CtV l yX3_putValue wsX3_putValue ({ frames := 2, cells := 0, slots := 0, locals := 47 }) G (ty2 cI cZ) (mw am cI cZ) [.ref (am 0), .int p0, .int p1] u post := by
  refine CtV.of (cc := cX3_putValue) (maxL := 5) (by decide) rfl (Nat.le_of_ble_eq_true rfl) ?_
  intro p e s m below meth c A Q hx hb hml hts hown hK hA hret ls hl hP hD hS
  have hiX3 : ∀ w ∈ u_ws RX3 TX3 24, w ∈ wsX3_putValue := by decide +kernel
  have hown : s.vm.findClass RX3 = some m.cls := hown
  have hl : lv_has ls 5 [(0, .ref (am 0)), (1, .int p0), (2, .int p1)] := hl
  have hlp2 : ∀ (n : Nat) (a1 : Int32) (a2 : Int32) (a3 : Int32) (u : CS), lp_X3_putValue_2 post n a1 a2 a3 u → ∀ (H : Heap) (locs : List Loc), va_P G vwCl (mw am cI cZ u) H → va_D A (mw am cI cZ u) → va_S A s.heap H locs → ∀ ls : Array Slot, lv_has ls 5 [(0, .ref (am 0)), (1, .int a1), (2, .int a2), (3, .int a3)] → W p l e ({ frames := 2, cells := 0, slots := 0, locals := 47 }) s m ([.ref (am 0), .int p0, .int p1] : List Value).toArray below meth c H locs 0 0 Q (F0 m 2 ls []) := by
    clear hw hl hP hD hS
    intro n
    induction n with
    | zero => intro a1 a2 a3 u hw; exact False.elim hw
    | succ n ih =>
      intro a1 a2 a3 u hw H locs hP hD hS ls hl
      unfold lp_X3_putValue_2 at hw
      refine lv_iload_n hx hb dX3_putValue_2 rfl (lv_at hl 3 rfl) ?_
      refine lv_aload_n hx hb dX3_putValue_3 rfl (lv_at hl 0 rfl) ?_
      refine va_get (D := G) (ci := 3) (v := .int (u 22 0)) (C := RX3) (T := TX3) (N := 24) hx hb hts hiX3 hown hK hP 0 rfl rfl 22 (by decide) (hts (.fieldLink RX3 88 "TreapVersionsModel" "steps" "I") (by decide +kernel)) (fun _ h9 => h9) rfl dX3_putValue_4 ?_
      refine lv_topi (fun z1 ez1 => ?_)
      have hw := nmI.go hw z1 ez1
      refine lv_icmp_ge (tgt := 84) hx hb dX3_putValue_7 (by decide) (fun c2 => ?_) (fun c2 => ?_)
      · have hw := brN.t hw c2
        exact hret u 84 _ _ _ dX3_putValue_84 hw hP hD hS
      · have hw := brN.f hw c2
        refine lv_aload_n hx hb dX3_putValue_10 rfl (lv_at hl 0 rfl) ?_
        refine lv_aload_n hx hb dX3_putValue_11 rfl (lv_at hl 0 rfl) ?_
        refine va_get (D := G) (ci := 3) (v := .ref (am 11)) (C := RX3) (T := TX3) (N := 24) hx hb hts hiX3 hown hK hP 0 rfl rfl 23 (by decide) (hts (.fieldLink RX3 41 "TreapVersionsModel" "way" "[I") (by decide +kernel)) (fun _ h9 => h9) rfl dX3_putValue_12 ?_
        refine lv_iload_n hx hb dX3_putValue_15 rfl (lv_at hl 3 rfl) ?_
        refine va_iald hx hb hK hP 11 0 rfl rfl (rdA.hin hw) dX3_putValue_16 ?_
        refine lv_topi (fun z3 ez3 => ?_)
        have hw := rdA.go hw z3 ez3
        refine CtI.call (As := [.int z3]) (rest := []) (c_X3_copy l G am cI cZ z3 u _ hw) ⟨hx, hb, hml, hown, hts⟩ (cwV 1 hts gX3_putValue_X3_copy rfl rfl rfl (by decide +kernel) ⟨Nat.le_of_ble_eq_true rfl, Nat.le_of_ble_eq_true rfl⟩) (va_recv hK hP (ci := 3) (q0 := 0) rfl rfl) hK hP hD hS hA rfl hl.1 rfl (Nat.le_of_ble_eq_true rfl) dX3_putValue_17 ⟨Nat.zero_le _, Nat.zero_le _⟩ (fun r5 u4 H locs hw hP hD hS => ?_)
        refine lv_istore (lv' := [(4, .int r5), (0, .ref (am 0)), (1, .int a1), (2, .int a2), (3, .int a3)]) hx hb dX3_putValue_20 hl (by decide) rfl (fun ls hl => ?_)
        refine lv_aload_n hx hb dX3_putValue_22 rfl (lv_at hl 1 rfl) ?_
        refine lv_iload hx hb dX3_putValue_23 (lv_at hl 0 rfl) ?_
        refine CtV.call (As := [.int r5]) (rest := []) (c_X3_hang l G am cI cZ r5 u4 _ hw) ⟨hx, hb, hml, hown, hts⟩ (cwV 1 hts gX3_putValue_X3_hang rfl rfl rfl (by decide +kernel) ⟨Nat.le_of_ble_eq_true rfl, Nat.le_of_ble_eq_true rfl⟩) (va_recv hK hP (ci := 3) (q0 := 0) rfl rfl) hK hP hD hS hA rfl hl.1 rfl (Nat.le_of_ble_eq_true rfl) dX3_putValue_25 ⟨Nat.zero_le _, Nat.zero_le _⟩ (fun u6 H locs hw hP hD hS => ?_)
        refine lv_aload_n hx hb dX3_putValue_28 rfl (lv_at hl 1 rfl) ?_
        refine va_get (D := G) (ci := 3) (v := .ref (am 2)) (C := RX3) (T := TX3) (N := 24) hx hb hts hiX3 hown hK hP 0 rfl rfl 7 (by decide) (hts (.fieldLink RX3 13 "TreapVersionsModel" "value" "[I") (by decide +kernel)) (fun _ h9 => h9) rfl dX3_putValue_29 ?_
        refine lv_iload hx hb dX3_putValue_32 (lv_at hl 0 rfl) ?_
        refine lv_iload_n hx hb dX3_putValue_34 rfl (lv_at hl 4 rfl) ?_
        refine lv_aload_n hx hb dX3_putValue_35 rfl (lv_at hl 1 rfl) ?_
        refine va_get (D := G) (ci := 3) (v := .int (u6 22 0)) (C := RX3) (T := TX3) (N := 24) hx hb hts hiX3 hown hK hP 0 rfl rfl 22 (by decide) (hts (.fieldLink RX3 88 "TreapVersionsModel" "steps" "I") (by decide +kernel)) (fun _ h9 => h9) rfl dX3_putValue_36 ?_
        refine lv_topi (fun z7 ez7 => ?_)
        have hw := nmI.go hw z7 ez7
        refine lv_iconst (v := 1) hx hb dX3_putValue_39 (by decide) ?_
        refine lv_isub hx hb dX3_putValue_40 ?_
        refine lv_topi (fun z8 ez8 => ?_)
        have hw := nmI.go hw z8 ez8
        refine lv_icmp_ne (tgt := 48) hx hb dX3_putValue_41 (by decide) (fun c9 => ?_) (fun c9 => ?_)
        · have hw := brN.f hw c9
          refine lv_aload_n hx hb dX3_putValue_48 rfl (lv_at hl 1 rfl) ?_
          refine va_get (D := G) (ci := 3) (v := .ref (am 2)) (C := RX3) (T := TX3) (N := 24) hx hb hts hiX3 hown hK hP 0 rfl rfl 7 (by decide) (hts (.fieldLink RX3 13 "TreapVersionsModel" "value" "[I") (by decide +kernel)) (fun _ h9 => h9) rfl dX3_putValue_49 ?_
          refine lv_iload hx hb dX3_putValue_52 (lv_at hl 0 rfl) ?_
          refine va_iald hx hb hK hP 2 0 rfl rfl (rdA.hin hw) dX3_putValue_54 ?_
          refine lv_topi (fun z10 ez10 => ?_)
          have hw := rdA.go hw z10 ez10
          refine va_iast hx hb hK hP hD hS 2 0 rfl rfl (wrA.hin hw) dX3_putValue_55 (fun H locs hP hD hS => ?_)
          obtain ⟨u11, eu11⟩ : ∃ z : CS, z = cset u6 7 (upd (u6 7) r5.toNatClampNeg z10) := ⟨_, rfl⟩
          have hP : va_P G vwCl (mw am cI cZ (cset u6 7 (upd (u6 7) r5.toNatClampNeg z10))) H := hP
          have hD : va_D A (mw am cI cZ (cset u6 7 (upd (u6 7) r5.toNatClampNeg z10))) := hD
          rw [← eu11] at hP hD
          have hw := wrA.go hw u11 eu11
          refine lv_aload_n hx hb dX3_putValue_56 rfl (lv_at hl 1 rfl) ?_
          refine lv_iload hx hb dX3_putValue_57 (lv_at hl 0 rfl) ?_
          refine lv_aload_n hx hb dX3_putValue_59 rfl (lv_at hl 1 rfl) ?_
          refine va_get (D := G) (ci := 3) (v := .ref (am 1)) (C := RX3) (T := TX3) (N := 24) hx hb hts hiX3 hown hK hP 0 rfl rfl 6 (by decide) (hts (.fieldLink RX3 7 "TreapVersionsModel" "key" "[I") (by decide +kernel)) (fun _ h9 => h9) rfl dX3_putValue_60 ?_
          refine lv_iload hx hb dX3_putValue_63 (lv_at hl 0 rfl) ?_
          refine va_iald hx hb hK hP 1 0 rfl rfl (rdA.hin hw) dX3_putValue_65 ?_
          refine lv_topi (fun z12 ez12 => ?_)
          have hw := rdA.go hw z12 ez12
          refine lv_iload_n hx hb dX3_putValue_66 rfl (lv_at hl 2 rfl) ?_
          refine lv_icmp_ge (tgt := 74) hx hb dX3_putValue_67 (by decide) (fun c13 => ?_) (fun c13 => ?_)
          · have hw := brN.t hw c13
            refine lv_iconst (v := 0) hx hb dX3_putValue_74 (by decide) ?_
            refine CtV.call (As := [.int r5, .int 0]) (rest := []) (c_X3_holeAt l G am cI cZ r5 0 u11 _ hw) ⟨hx, hb, hml, hown, hts⟩ (cwV 2 hts gX3_putValue_X3_holeAt rfl rfl rfl (by decide +kernel) ⟨Nat.le_of_ble_eq_true rfl, Nat.le_of_ble_eq_true rfl⟩) (va_recv hK hP (ci := 3) (q0 := 0) rfl rfl) hK hP hD hS hA rfl hl.1 rfl (Nat.le_of_ble_eq_true rfl) dX3_putValue_75 ⟨Nat.zero_le _, Nat.zero_le _⟩ (fun u14 H locs hw hP hD hS => ?_)
            obtain ⟨z15, ez15⟩ : ∃ y : Int32, y = a3 + 1 := ⟨_, rfl⟩
            have hw := nmI.go hw z15 ez15
            refine lv_iinc (v := z15) (lv' := [(3, .int z15), (4, .int r5), (0, .ref (am 0)), (1, .int a1), (2, .int a2)]) hx hb dX3_putValue_78 hl (k := 4) rfl (by rw [ez15]; rfl) (by decide) rfl (fun ls hl => ?_)
            refine lv_goto (tgt := 2) hx hb dX3_putValue_81 (by decide) ?_
            exact ih a1 a2 z15 u14 hw _ _ hP hD hS _ (lv_sub hl [2, 3, 4, 0] rfl)
          · have hw := brN.f hw c13
            refine lv_iconst (v := 1) hx hb dX3_putValue_70 (by decide) ?_
            refine lv_goto (tgt := 75) hx hb dX3_putValue_71 (by decide) ?_
            refine CtV.call (As := [.int r5, .int 1]) (rest := []) (c_X3_holeAt l G am cI cZ r5 1 u11 _ hw) ⟨hx, hb, hml, hown, hts⟩ (cwV 2 hts gX3_putValue_X3_holeAt rfl rfl rfl (by decide +kernel) ⟨Nat.le_of_ble_eq_true rfl, Nat.le_of_ble_eq_true rfl⟩) (va_recv hK hP (ci := 3) (q0 := 0) rfl rfl) hK hP hD hS hA rfl hl.1 rfl (Nat.le_of_ble_eq_true rfl) dX3_putValue_75 ⟨Nat.zero_le _, Nat.zero_le _⟩ (fun u16 H locs hw hP hD hS => ?_)
            obtain ⟨z17, ez17⟩ : ∃ y : Int32, y = a3 + 1 := ⟨_, rfl⟩
            have hw := nmI.go hw z17 ez17
            refine lv_iinc (v := z17) (lv' := [(3, .int z17), (4, .int r5), (0, .ref (am 0)), (1, .int a1), (2, .int a2)]) hx hb dX3_putValue_78 hl (k := 4) rfl (by rw [ez17]; rfl) (by decide) rfl (fun ls hl => ?_)
            refine lv_goto (tgt := 2) hx hb dX3_putValue_81 (by decide) ?_
            exact ih a1 a2 z17 u16 hw _ _ hP hD hS _ (lv_sub hl [2, 3, 4, 0] rfl)
        · have hw := brN.t hw c9
          refine lv_iload_n hx hb dX3_putValue_44 rfl (lv_at hl 3 rfl) ?_
          refine lv_goto (tgt := 55) hx hb dX3_putValue_45 (by decide) ?_
          refine va_iast hx hb hK hP hD hS 2 0 rfl rfl (wrA.hin hw) dX3_putValue_55 (fun H locs hP hD hS => ?_)
          obtain ⟨u18, eu18⟩ : ∃ z : CS, z = cset u6 7 (upd (u6 7) r5.toNatClampNeg a2) := ⟨_, rfl⟩
          have hP : va_P G vwCl (mw am cI cZ (cset u6 7 (upd (u6 7) r5.toNatClampNeg a2))) H := hP
          have hD : va_D A (mw am cI cZ (cset u6 7 (upd (u6 7) r5.toNatClampNeg a2))) := hD
          rw [← eu18] at hP hD
          have hw := wrA.go hw u18 eu18
          refine lv_aload_n hx hb dX3_putValue_56 rfl (lv_at hl 1 rfl) ?_
          refine lv_iload hx hb dX3_putValue_57 (lv_at hl 0 rfl) ?_
          refine lv_aload_n hx hb dX3_putValue_59 rfl (lv_at hl 1 rfl) ?_
          refine va_get (D := G) (ci := 3) (v := .ref (am 1)) (C := RX3) (T := TX3) (N := 24) hx hb hts hiX3 hown hK hP 0 rfl rfl 6 (by decide) (hts (.fieldLink RX3 7 "TreapVersionsModel" "key" "[I") (by decide +kernel)) (fun _ h9 => h9) rfl dX3_putValue_60 ?_
          refine lv_iload hx hb dX3_putValue_63 (lv_at hl 0 rfl) ?_
          refine va_iald hx hb hK hP 1 0 rfl rfl (rdA.hin hw) dX3_putValue_65 ?_
          refine lv_topi (fun z19 ez19 => ?_)
          have hw := rdA.go hw z19 ez19
          refine lv_iload_n hx hb dX3_putValue_66 rfl (lv_at hl 2 rfl) ?_
          refine lv_icmp_ge (tgt := 74) hx hb dX3_putValue_67 (by decide) (fun c20 => ?_) (fun c20 => ?_)
          · have hw := brN.t hw c20
            refine lv_iconst (v := 0) hx hb dX3_putValue_74 (by decide) ?_
            refine CtV.call (As := [.int r5, .int 0]) (rest := []) (c_X3_holeAt l G am cI cZ r5 0 u18 _ hw) ⟨hx, hb, hml, hown, hts⟩ (cwV 2 hts gX3_putValue_X3_holeAt rfl rfl rfl (by decide +kernel) ⟨Nat.le_of_ble_eq_true rfl, Nat.le_of_ble_eq_true rfl⟩) (va_recv hK hP (ci := 3) (q0 := 0) rfl rfl) hK hP hD hS hA rfl hl.1 rfl (Nat.le_of_ble_eq_true rfl) dX3_putValue_75 ⟨Nat.zero_le _, Nat.zero_le _⟩ (fun u21 H locs hw hP hD hS => ?_)
            obtain ⟨z22, ez22⟩ : ∃ y : Int32, y = a3 + 1 := ⟨_, rfl⟩
            have hw := nmI.go hw z22 ez22
            refine lv_iinc (v := z22) (lv' := [(3, .int z22), (4, .int r5), (0, .ref (am 0)), (1, .int a1), (2, .int a2)]) hx hb dX3_putValue_78 hl (k := 4) rfl (by rw [ez22]; rfl) (by decide) rfl (fun ls hl => ?_)
            refine lv_goto (tgt := 2) hx hb dX3_putValue_81 (by decide) ?_
            exact ih a1 a2 z22 u21 hw _ _ hP hD hS _ (lv_sub hl [2, 3, 4, 0] rfl)
          · have hw := brN.f hw c20
            refine lv_iconst (v := 1) hx hb dX3_putValue_70 (by decide) ?_
            refine lv_goto (tgt := 75) hx hb dX3_putValue_71 (by decide) ?_
            refine CtV.call (As := [.int r5, .int 1]) (rest := []) (c_X3_holeAt l G am cI cZ r5 1 u18 _ hw) ⟨hx, hb, hml, hown, hts⟩ (cwV 2 hts gX3_putValue_X3_holeAt rfl rfl rfl (by decide +kernel) ⟨Nat.le_of_ble_eq_true rfl, Nat.le_of_ble_eq_true rfl⟩) (va_recv hK hP (ci := 3) (q0 := 0) rfl rfl) hK hP hD hS hA rfl hl.1 rfl (Nat.le_of_ble_eq_true rfl) dX3_putValue_75 ⟨Nat.zero_le _, Nat.zero_le _⟩ (fun u23 H locs hw hP hD hS => ?_)
            obtain ⟨z24, ez24⟩ : ∃ y : Int32, y = a3 + 1 := ⟨_, rfl⟩
            have hw := nmI.go hw z24 ez24
            refine lv_iinc (v := z24) (lv' := [(3, .int z24), (4, .int r5), (0, .ref (am 0)), (1, .int a1), (2, .int a2)]) hx hb dX3_putValue_78 hl (k := 4) rfl (by rw [ez24]; rfl) (by decide) rfl (fun ls hl => ?_)
            refine lv_goto (tgt := 2) hx hb dX3_putValue_81 (by decide) ?_
            exact ih a1 a2 z24 u23 hw _ _ hP hD hS _ (lv_sub hl [2, 3, 4, 0] rfl)
  unfold wp_X3_putValue at hw
  refine lv_iconst (v := 0) hx hb dX3_putValue_0 (by decide) ?_
  refine lv_istore_n (lv' := [(3, .int 0), (0, .ref (am 0)), (1, .int p0), (2, .int p1)]) hx hb dX3_putValue_1 rfl hl (by decide) rfl (fun ls hl => ?_)
  obtain ⟨n9, hw⟩ := hw
  exact hlp2 n9 p0 p1 0 u hw _ _ hP hD hS _ (lv_sub hl [1, 2, 3, 0] rfl)
set_option maxHeartbeats 4000000 in
set_option maxRecDepth 100000 in
theorem c_X3_putNew (l : Launch) (G : va_G) (am : Nat → Nat) (cI cZ : ClassId) (p0 : Int32) (p1 : Int32) (u : CS) (post : CS → Prop) (hw : wp_X3_putNew p0 p1 u post) : CtV l yX3_putNew wsX3_putNew ({ frames := 2, cells := 0, slots := 0, locals := 47 }) G (ty2 cI cZ) (mw am cI cZ) [.ref (am 0), .int p0, .int p1] u post := by
  refine CtV.of (cc := cX3_putNew) (maxL := 8) (by decide) rfl (Nat.le_of_ble_eq_true rfl) ?_
  intro p e s m below meth c A Q hx hb hml hts hown hK hA hret ls hl hP hD hS
  have hiX3 : ∀ w ∈ u_ws RX3 TX3 24, w ∈ wsX3_putNew := by decide +kernel
  have hown : s.vm.findClass RX3 = some m.cls := hown
  have hl : lv_has ls 8 [(0, .ref (am 0)), (1, .int p0), (2, .int p1)] := hl
  have hlp119 : ∀ (n : Nat) (a1 : Int32) (a3 : Int32) (a4 : Int32) (a5 : Int32) (a6 : Int32) (u : CS), lp_X3_putNew_119 post n a1 a3 a4 a5 a6 u → ∀ (H : Heap) (locs : List Loc), va_P G vwCl (mw am cI cZ u) H → va_D A (mw am cI cZ u) → va_S A s.heap H locs → ∀ ls : Array Slot, lv_has ls 8 [(0, .ref (am 0)), (1, .int a1), (3, .int a3), (4, .int a4), (5, .int a5), (6, .int a6)] → W p l e ({ frames := 2, cells := 0, slots := 0, locals := 47 }) s m ([.ref (am 0), .int p0, .int p1] : List Value).toArray below meth c H locs 0 0 Q (F0 m 119 ls []) := by
    clear hw hl hP hD hS
    intro n
    induction n with
    | zero => intro a1 a3 a4 a5 a6 u hw; exact False.elim hw
    | succ n ih =>
      intro a1 a3 a4 a5 a6 u hw H locs hP hD hS ls hl
      unfold lp_X3_putNew_119 at hw
      refine lv_iload hx hb dX3_putNew_119 (lv_at hl 3 rfl) ?_
      refine lv_aload_n hx hb dX3_putNew_121 rfl (lv_at hl 0 rfl) ?_
      refine va_get (D := G) (ci := 3) (v := .int (u 22 0)) (C := RX3) (T := TX3) (N := 24) hx hb hts hiX3 hown hK hP 0 rfl rfl 22 (by decide) (hts (.fieldLink RX3 88 "TreapVersionsModel" "steps" "I") (by decide +kernel)) (fun _ h9 => h9) rfl dX3_putNew_122 ?_
      refine lv_topi (fun z13 ez13 => ?_)
      have hw := nmI.go hw z13 ez13
      refine lv_icmp_ge (tgt := 235) hx hb dX3_putNew_125 (by decide) (fun c14 => ?_) (fun c14 => ?_)
      · have hw := brN.t hw c14
        exact hret u 235 _ _ _ dX3_putNew_235 hw hP hD hS
      · have hw := brN.f hw c14
        refine lv_aload_n hx hb dX3_putNew_128 rfl (lv_at hl 0 rfl) ?_
        refine lv_aload_n hx hb dX3_putNew_129 rfl (lv_at hl 0 rfl) ?_
        refine va_get (D := G) (ci := 3) (v := .ref (am 11)) (C := RX3) (T := TX3) (N := 24) hx hb hts hiX3 hown hK hP 0 rfl rfl 23 (by decide) (hts (.fieldLink RX3 41 "TreapVersionsModel" "way" "[I") (by decide +kernel)) (fun _ h9 => h9) rfl dX3_putNew_130 ?_
        refine lv_iload hx hb dX3_putNew_133 (lv_at hl 3 rfl) ?_
        refine va_iald hx hb hK hP 11 0 rfl rfl (rdA.hin hw) dX3_putNew_135 ?_
        refine lv_topi (fun z15 ez15 => ?_)
        have hw := rdA.go hw z15 ez15
        refine CtI.call (As := [.int z15]) (rest := []) (c_X3_copy l G am cI cZ z15 u _ hw) ⟨hx, hb, hml, hown, hts⟩ (cwV 1 hts gX3_putNew_X3_copy rfl rfl rfl (by decide +kernel) ⟨Nat.le_of_ble_eq_true rfl, Nat.le_of_ble_eq_true rfl⟩) (va_recv hK hP (ci := 3) (q0 := 0) rfl rfl) hK hP hD hS hA rfl hl.1 rfl (Nat.le_of_ble_eq_true rfl) dX3_putNew_136 ⟨Nat.zero_le _, Nat.zero_le _⟩ (fun r17 u16 H locs hw hP hD hS => ?_)
        refine lv_istore (lv' := [(7, .int r17), (0, .ref (am 0)), (1, .int a1), (3, .int a3), (4, .int a4), (5, .int a5), (6, .int a6)]) hx hb dX3_putNew_139 hl (by decide) rfl (fun ls hl => ?_)
        refine lv_aload_n hx hb dX3_putNew_141 rfl (lv_at hl 1 rfl) ?_
        refine va_get (D := G) (ci := 3) (v := .ref (am 1)) (C := RX3) (T := TX3) (N := 24) hx hb hts hiX3 hown hK hP 0 rfl rfl 6 (by decide) (hts (.fieldLink RX3 7 "TreapVersionsModel" "key" "[I") (by decide +kernel)) (fun _ h9 => h9) rfl dX3_putNew_142 ?_
        refine lv_iload hx hb dX3_putNew_145 (lv_at hl 0 rfl) ?_
        refine va_iald hx hb hK hP 1 0 rfl rfl (rdA.hin hw) dX3_putNew_147 ?_
        refine lv_topi (fun z18 ez18 => ?_)
        have hw := rdA.go hw z18 ez18
        refine lv_iload_n hx hb dX3_putNew_148 rfl (lv_at hl 2 rfl) ?_
        refine lv_icmp_ge (tgt := 192) hx hb dX3_putNew_149 (by decide) (fun c19 => ?_) (fun c19 => ?_)
        · have hw := brN.t hw c19
          refine lv_iload hx hb dX3_putNew_192 (lv_at hl 6 rfl) ?_
          refine lv_if_ge (tgt := 208) hx hb dX3_putNew_194 (by decide) (fun c20 => ?_) (fun c20 => ?_)
          · have hw := brN.t hw c20
            refine lv_aload_n hx hb dX3_putNew_208 rfl (lv_at hl 1 rfl) ?_
            refine va_get (D := G) (ci := 3) (v := .ref (am 4)) (C := RX3) (T := TX3) (N := 24) hx hb hts hiX3 hown hK hP 0 rfl rfl 9 (by decide) (hts (.fieldLink RX3 19 "TreapVersionsModel" "left" "[I") (by decide +kernel)) (fun _ h9 => h9) rfl dX3_putNew_209 ?_
            refine lv_iload hx hb dX3_putNew_212 (lv_at hl 6 rfl) ?_
            refine lv_iload hx hb dX3_putNew_214 (lv_at hl 0 rfl) ?_
            refine va_iast hx hb hK hP hD hS 4 0 rfl rfl (wrA.hin hw) dX3_putNew_216 (fun H locs hP hD hS => ?_)
            obtain ⟨u21, eu21⟩ : ∃ z : CS, z = cset u16 9 (upd (u16 9) a6.toNatClampNeg r17) := ⟨_, rfl⟩
            have hP : va_P G vwCl (mw am cI cZ (cset u16 9 (upd (u16 9) a6.toNatClampNeg r17))) H := hP
            have hD : va_D A (mw am cI cZ (cset u16 9 (upd (u16 9) a6.toNatClampNeg r17))) := hD
            rw [← eu21] at hP hD
            have hw := wrA.go hw u21 eu21
            refine lv_aload_n hx hb dX3_putNew_217 rfl (lv_at hl 1 rfl) ?_
            refine va_get (D := G) (ci := 3) (v := .ref (am 4)) (C := RX3) (T := TX3) (N := 24) hx hb hts hiX3 hown hK hP 0 rfl rfl 9 (by decide) (hts (.fieldLink RX3 19 "TreapVersionsModel" "left" "[I") (by decide +kernel)) (fun _ h9 => h9) rfl dX3_putNew_218 ?_
            refine lv_iload hx hb dX3_putNew_221 (lv_at hl 0 rfl) ?_
            refine lv_iconst (v := (-1)) hx hb dX3_putNew_223 (by decide) ?_
            refine va_iast hx hb hK hP hD hS 4 0 rfl rfl (wrA.hin hw) dX3_putNew_224 (fun H locs hP hD hS => ?_)
            obtain ⟨u22, eu22⟩ : ∃ z : CS, z = cset u21 9 (upd (u21 9) r17.toNatClampNeg (-1)) := ⟨_, rfl⟩
            have hP : va_P G vwCl (mw am cI cZ (cset u21 9 (upd (u21 9) r17.toNatClampNeg (-1)))) H := hP
            have hD : va_D A (mw am cI cZ (cset u21 9 (upd (u21 9) r17.toNatClampNeg (-1)))) := hD
            rw [← eu22] at hP hD
            have hw := wrA.go hw u22 eu22
            refine lv_iload hx hb dX3_putNew_225 (lv_at hl 0 rfl) ?_
            refine lv_istore (lv' := [(6, .int r17), (7, .int r17), (0, .ref (am 0)), (1, .int a1), (3, .int a3), (4, .int a4), (5, .int a5)]) hx hb dX3_putNew_227 hl (by decide) rfl (fun ls hl => ?_)
            obtain ⟨z23, ez23⟩ : ∃ y : Int32, y = a4 + 1 := ⟨_, rfl⟩
            have hw := nmI.go hw z23 ez23
            refine lv_iinc (v := z23) (lv' := [(4, .int z23), (6, .int r17), (7, .int r17), (0, .ref (am 0)), (1, .int a1), (3, .int a3), (5, .int a5)]) hx hb dX3_putNew_229 hl (k := 5) rfl (by rw [ez23]; rfl) (by decide) rfl (fun ls hl => ?_)
            refine lv_goto (tgt := 119) hx hb dX3_putNew_232 (by decide) ?_
            exact ih a1 a3 z23 a5 r17 u22 hw _ _ hP hD hS _ (lv_sub hl [3, 4, 5, 0, 6, 1] rfl)
          · have hw := brN.f hw c20
            refine lv_aload_n hx hb dX3_putNew_197 rfl (lv_at hl 1 rfl) ?_
            refine va_get (D := G) (ci := 3) (v := .ref (am 5)) (C := RX3) (T := TX3) (N := 24) hx hb hts hiX3 hown hK hP 0 rfl rfl 10 (by decide) (hts (.fieldLink RX3 22 "TreapVersionsModel" "right" "[I") (by decide +kernel)) (fun _ h9 => h9) rfl dX3_putNew_198 ?_
            refine lv_iload_n hx hb dX3_putNew_201 rfl (lv_at hl 3 rfl) ?_
            refine lv_iload hx hb dX3_putNew_202 (lv_at hl 0 rfl) ?_
            refine va_iast hx hb hK hP hD hS 5 0 rfl rfl (wrA.hin hw) dX3_putNew_204 (fun H locs hP hD hS => ?_)
            obtain ⟨u24, eu24⟩ : ∃ z : CS, z = cset u16 10 (upd (u16 10) a3.toNatClampNeg r17) := ⟨_, rfl⟩
            have hP : va_P G vwCl (mw am cI cZ (cset u16 10 (upd (u16 10) a3.toNatClampNeg r17))) H := hP
            have hD : va_D A (mw am cI cZ (cset u16 10 (upd (u16 10) a3.toNatClampNeg r17))) := hD
            rw [← eu24] at hP hD
            have hw := wrA.go hw u24 eu24
            refine lv_goto (tgt := 217) hx hb dX3_putNew_205 (by decide) ?_
            refine lv_aload_n hx hb dX3_putNew_217 rfl (lv_at hl 1 rfl) ?_
            refine va_get (D := G) (ci := 3) (v := .ref (am 4)) (C := RX3) (T := TX3) (N := 24) hx hb hts hiX3 hown hK hP 0 rfl rfl 9 (by decide) (hts (.fieldLink RX3 19 "TreapVersionsModel" "left" "[I") (by decide +kernel)) (fun _ h9 => h9) rfl dX3_putNew_218 ?_
            refine lv_iload hx hb dX3_putNew_221 (lv_at hl 0 rfl) ?_
            refine lv_iconst (v := (-1)) hx hb dX3_putNew_223 (by decide) ?_
            refine va_iast hx hb hK hP hD hS 4 0 rfl rfl (wrA.hin hw) dX3_putNew_224 (fun H locs hP hD hS => ?_)
            obtain ⟨u25, eu25⟩ : ∃ z : CS, z = cset u24 9 (upd (u24 9) r17.toNatClampNeg (-1)) := ⟨_, rfl⟩
            have hP : va_P G vwCl (mw am cI cZ (cset u24 9 (upd (u24 9) r17.toNatClampNeg (-1)))) H := hP
            have hD : va_D A (mw am cI cZ (cset u24 9 (upd (u24 9) r17.toNatClampNeg (-1)))) := hD
            rw [← eu25] at hP hD
            have hw := wrA.go hw u25 eu25
            refine lv_iload hx hb dX3_putNew_225 (lv_at hl 0 rfl) ?_
            refine lv_istore (lv' := [(6, .int r17), (7, .int r17), (0, .ref (am 0)), (1, .int a1), (3, .int a3), (4, .int a4), (5, .int a5)]) hx hb dX3_putNew_227 hl (by decide) rfl (fun ls hl => ?_)
            obtain ⟨z26, ez26⟩ : ∃ y : Int32, y = a4 + 1 := ⟨_, rfl⟩
            have hw := nmI.go hw z26 ez26
            refine lv_iinc (v := z26) (lv' := [(4, .int z26), (6, .int r17), (7, .int r17), (0, .ref (am 0)), (1, .int a1), (3, .int a3), (5, .int a5)]) hx hb dX3_putNew_229 hl (k := 5) rfl (by rw [ez26]; rfl) (by decide) rfl (fun ls hl => ?_)
            refine lv_goto (tgt := 119) hx hb dX3_putNew_232 (by decide) ?_
            exact ih a1 a3 z26 a5 r17 u25 hw _ _ hP hD hS _ (lv_sub hl [3, 4, 5, 0, 6, 1] rfl)
        · have hw := brN.f hw c19
          refine lv_iload hx hb dX3_putNew_152 (lv_at hl 5 rfl) ?_
          refine lv_if_ge (tgt := 168) hx hb dX3_putNew_154 (by decide) (fun c27 => ?_) (fun c27 => ?_)
          · have hw := brN.t hw c27
            refine lv_aload_n hx hb dX3_putNew_168 rfl (lv_at hl 1 rfl) ?_
            refine va_get (D := G) (ci := 3) (v := .ref (am 5)) (C := RX3) (T := TX3) (N := 24) hx hb hts hiX3 hown hK hP 0 rfl rfl 10 (by decide) (hts (.fieldLink RX3 22 "TreapVersionsModel" "right" "[I") (by decide +kernel)) (fun _ h9 => h9) rfl dX3_putNew_169 ?_
            refine lv_iload hx hb dX3_putNew_172 (lv_at hl 5 rfl) ?_
            refine lv_iload hx hb dX3_putNew_174 (lv_at hl 0 rfl) ?_
            refine va_iast hx hb hK hP hD hS 5 0 rfl rfl (wrA.hin hw) dX3_putNew_176 (fun H locs hP hD hS => ?_)
            obtain ⟨u28, eu28⟩ : ∃ z : CS, z = cset u16 10 (upd (u16 10) a5.toNatClampNeg r17) := ⟨_, rfl⟩
            have hP : va_P G vwCl (mw am cI cZ (cset u16 10 (upd (u16 10) a5.toNatClampNeg r17))) H := hP
            have hD : va_D A (mw am cI cZ (cset u16 10 (upd (u16 10) a5.toNatClampNeg r17))) := hD
            rw [← eu28] at hP hD
            have hw := wrA.go hw u28 eu28
            refine lv_aload_n hx hb dX3_putNew_177 rfl (lv_at hl 1 rfl) ?_
            refine va_get (D := G) (ci := 3) (v := .ref (am 5)) (C := RX3) (T := TX3) (N := 24) hx hb hts hiX3 hown hK hP 0 rfl rfl 10 (by decide) (hts (.fieldLink RX3 22 "TreapVersionsModel" "right" "[I") (by decide +kernel)) (fun _ h9 => h9) rfl dX3_putNew_178 ?_
            refine lv_iload hx hb dX3_putNew_181 (lv_at hl 0 rfl) ?_
            refine lv_iconst (v := (-1)) hx hb dX3_putNew_183 (by decide) ?_
            refine va_iast hx hb hK hP hD hS 5 0 rfl rfl (wrA.hin hw) dX3_putNew_184 (fun H locs hP hD hS => ?_)
            obtain ⟨u29, eu29⟩ : ∃ z : CS, z = cset u28 10 (upd (u28 10) r17.toNatClampNeg (-1)) := ⟨_, rfl⟩
            have hP : va_P G vwCl (mw am cI cZ (cset u28 10 (upd (u28 10) r17.toNatClampNeg (-1)))) H := hP
            have hD : va_D A (mw am cI cZ (cset u28 10 (upd (u28 10) r17.toNatClampNeg (-1)))) := hD
            rw [← eu29] at hP hD
            have hw := wrA.go hw u29 eu29
            refine lv_iload hx hb dX3_putNew_185 (lv_at hl 0 rfl) ?_
            refine lv_istore (lv' := [(5, .int r17), (7, .int r17), (0, .ref (am 0)), (1, .int a1), (3, .int a3), (4, .int a4), (6, .int a6)]) hx hb dX3_putNew_187 hl (by decide) rfl (fun ls hl => ?_)
            refine lv_goto (tgt := 229) hx hb dX3_putNew_189 (by decide) ?_
            obtain ⟨z30, ez30⟩ : ∃ y : Int32, y = a4 + 1 := ⟨_, rfl⟩
            have hw := nmI.go hw z30 ez30
            refine lv_iinc (v := z30) (lv' := [(4, .int z30), (5, .int r17), (7, .int r17), (0, .ref (am 0)), (1, .int a1), (3, .int a3), (6, .int a6)]) hx hb dX3_putNew_229 hl (k := 5) rfl (by rw [ez30]; rfl) (by decide) rfl (fun ls hl => ?_)
            refine lv_goto (tgt := 119) hx hb dX3_putNew_232 (by decide) ?_
            exact ih a1 a3 z30 r17 a6 u29 hw _ _ hP hD hS _ (lv_sub hl [3, 4, 5, 0, 1, 6] rfl)
          · have hw := brN.f hw c27
            refine lv_aload_n hx hb dX3_putNew_157 rfl (lv_at hl 1 rfl) ?_
            refine va_get (D := G) (ci := 3) (v := .ref (am 4)) (C := RX3) (T := TX3) (N := 24) hx hb hts hiX3 hown hK hP 0 rfl rfl 9 (by decide) (hts (.fieldLink RX3 19 "TreapVersionsModel" "left" "[I") (by decide +kernel)) (fun _ h9 => h9) rfl dX3_putNew_158 ?_
            refine lv_iload_n hx hb dX3_putNew_161 rfl (lv_at hl 3 rfl) ?_
            refine lv_iload hx hb dX3_putNew_162 (lv_at hl 0 rfl) ?_
            refine va_iast hx hb hK hP hD hS 4 0 rfl rfl (wrA.hin hw) dX3_putNew_164 (fun H locs hP hD hS => ?_)
            obtain ⟨u31, eu31⟩ : ∃ z : CS, z = cset u16 9 (upd (u16 9) a3.toNatClampNeg r17) := ⟨_, rfl⟩
            have hP : va_P G vwCl (mw am cI cZ (cset u16 9 (upd (u16 9) a3.toNatClampNeg r17))) H := hP
            have hD : va_D A (mw am cI cZ (cset u16 9 (upd (u16 9) a3.toNatClampNeg r17))) := hD
            rw [← eu31] at hP hD
            have hw := wrA.go hw u31 eu31
            refine lv_goto (tgt := 177) hx hb dX3_putNew_165 (by decide) ?_
            refine lv_aload_n hx hb dX3_putNew_177 rfl (lv_at hl 1 rfl) ?_
            refine va_get (D := G) (ci := 3) (v := .ref (am 5)) (C := RX3) (T := TX3) (N := 24) hx hb hts hiX3 hown hK hP 0 rfl rfl 10 (by decide) (hts (.fieldLink RX3 22 "TreapVersionsModel" "right" "[I") (by decide +kernel)) (fun _ h9 => h9) rfl dX3_putNew_178 ?_
            refine lv_iload hx hb dX3_putNew_181 (lv_at hl 0 rfl) ?_
            refine lv_iconst (v := (-1)) hx hb dX3_putNew_183 (by decide) ?_
            refine va_iast hx hb hK hP hD hS 5 0 rfl rfl (wrA.hin hw) dX3_putNew_184 (fun H locs hP hD hS => ?_)
            obtain ⟨u32, eu32⟩ : ∃ z : CS, z = cset u31 10 (upd (u31 10) r17.toNatClampNeg (-1)) := ⟨_, rfl⟩
            have hP : va_P G vwCl (mw am cI cZ (cset u31 10 (upd (u31 10) r17.toNatClampNeg (-1)))) H := hP
            have hD : va_D A (mw am cI cZ (cset u31 10 (upd (u31 10) r17.toNatClampNeg (-1)))) := hD
            rw [← eu32] at hP hD
            have hw := wrA.go hw u32 eu32
            refine lv_iload hx hb dX3_putNew_185 (lv_at hl 0 rfl) ?_
            refine lv_istore (lv' := [(5, .int r17), (7, .int r17), (0, .ref (am 0)), (1, .int a1), (3, .int a3), (4, .int a4), (6, .int a6)]) hx hb dX3_putNew_187 hl (by decide) rfl (fun ls hl => ?_)
            refine lv_goto (tgt := 229) hx hb dX3_putNew_189 (by decide) ?_
            obtain ⟨z33, ez33⟩ : ∃ y : Int32, y = a4 + 1 := ⟨_, rfl⟩
            have hw := nmI.go hw z33 ez33
            refine lv_iinc (v := z33) (lv' := [(4, .int z33), (5, .int r17), (7, .int r17), (0, .ref (am 0)), (1, .int a1), (3, .int a3), (6, .int a6)]) hx hb dX3_putNew_229 hl (k := 5) rfl (by rw [ez33]; rfl) (by decide) rfl (fun ls hl => ?_)
            refine lv_goto (tgt := 119) hx hb dX3_putNew_232 (by decide) ?_
            exact ih a1 a3 z33 r17 a6 u32 hw _ _ hP hD hS _ (lv_sub hl [3, 4, 5, 0, 1, 6] rfl)
  have hlp37 : ∀ (n : Nat) (a1 : Int32) (a3 : Int32) (a4 : Int32) (u : CS), lp_X3_putNew_37 post n a1 a3 a4 u → ∀ (H : Heap) (locs : List Loc), va_P G vwCl (mw am cI cZ u) H → va_D A (mw am cI cZ u) → va_S A s.heap H locs → ∀ ls : Array Slot, lv_has ls 8 [(0, .ref (am 0)), (1, .int a1), (3, .int a3), (4, .int a4)] → W p l e ({ frames := 2, cells := 0, slots := 0, locals := 47 }) s m ([.ref (am 0), .int p0, .int p1] : List Value).toArray below meth c H locs 0 0 Q (F0 m 37 ls []) := by
    clear hw hl hP hD hS
    intro n
    induction n with
    | zero => intro a1 a3 a4 u hw; exact False.elim hw
    | succ n ih =>
      intro a1 a3 a4 u hw H locs hP hD hS ls hl
      unfold lp_X3_putNew_37 at hw
      refine lv_iload hx hb dX3_putNew_37 (lv_at hl 3 rfl) ?_
      refine lv_aload_n hx hb dX3_putNew_39 rfl (lv_at hl 0 rfl) ?_
      refine va_get (D := G) (ci := 3) (v := .int (u 22 0)) (C := RX3) (T := TX3) (N := 24) hx hb hts hiX3 hown hK hP 0 rfl rfl 22 (by decide) (hts (.fieldLink RX3 88 "TreapVersionsModel" "steps" "I") (by decide +kernel)) (fun _ h9 => h9) rfl dX3_putNew_40 ?_
      refine lv_topi (fun z10 ez10 => ?_)
      have hw := nmI.go hw z10 ez10
      refine lv_icmp_ge (tgt := 108) hx hb dX3_putNew_43 (by decide) (fun c11 => ?_) (fun c11 => ?_)
      · have hw := brN.t hw c11
        refine lv_aload_n hx hb dX3_putNew_108 rfl (lv_at hl 0 rfl) ?_
        refine lv_iload_n hx hb dX3_putNew_109 rfl (lv_at hl 2 rfl) ?_
        refine CtV.call (As := [.int a3]) (rest := []) (c_X3_hang l G am cI cZ a3 u _ hw) ⟨hx, hb, hml, hown, hts⟩ (cwV 1 hts gX3_putNew_X3_hang rfl rfl rfl (by decide +kernel) ⟨Nat.le_of_ble_eq_true rfl, Nat.le_of_ble_eq_true rfl⟩) (va_recv hK hP (ci := 3) (q0 := 0) rfl rfl) hK hP hD hS hA rfl hl.1 rfl (Nat.le_of_ble_eq_true rfl) dX3_putNew_110 ⟨Nat.zero_le _, Nat.zero_le _⟩ (fun u12 H locs hw hP hD hS => ?_)
        refine lv_iconst (v := (-1)) hx hb dX3_putNew_113 (by decide) ?_
        refine lv_istore (lv' := [(5, .int (-1)), (0, .ref (am 0)), (1, .int a1), (3, .int a3), (4, .int a4)]) hx hb dX3_putNew_114 hl (by decide) rfl (fun ls hl => ?_)
        refine lv_iconst (v := (-1)) hx hb dX3_putNew_116 (by decide) ?_
        refine lv_istore (lv' := [(6, .int (-1)), (5, .int (-1)), (0, .ref (am 0)), (1, .int a1), (3, .int a3), (4, .int a4)]) hx hb dX3_putNew_117 hl (by decide) rfl (fun ls hl => ?_)
        obtain ⟨n9, hw⟩ := hw
        exact hlp119 n9 a1 a3 a4 (-1) (-1) u12 hw _ _ hP hD hS _ (lv_sub hl [2, 3, 4, 5, 1, 0] rfl)
      · have hw := brN.f hw c11
        refine lv_aload_n hx hb dX3_putNew_46 rfl (lv_at hl 0 rfl) ?_
        refine lv_aload_n hx hb dX3_putNew_47 rfl (lv_at hl 0 rfl) ?_
        refine va_get (D := G) (ci := 3) (v := .ref (am 11)) (C := RX3) (T := TX3) (N := 24) hx hb hts hiX3 hown hK hP 0 rfl rfl 23 (by decide) (hts (.fieldLink RX3 41 "TreapVersionsModel" "way" "[I") (by decide +kernel)) (fun _ h9 => h9) rfl dX3_putNew_48 ?_
        refine lv_iload hx hb dX3_putNew_51 (lv_at hl 3 rfl) ?_
        refine va_iald hx hb hK hP 11 0 rfl rfl (rdA.hin hw) dX3_putNew_53 ?_
        refine lv_topi (fun z34 ez34 => ?_)
        have hw := rdA.go hw z34 ez34
        refine lv_iload_n hx hb dX3_putNew_54 rfl (lv_at hl 2 rfl) ?_
        refine CtI.call (As := [.int z34, .int a3]) (rest := []) (c_X3_above l G am cI cZ z34 a3 u _ hw) ⟨hx, hb, hml, hown, hts⟩ (cwV 2 hts gX3_putNew_X3_above rfl rfl rfl (by decide +kernel) ⟨Nat.le_of_ble_eq_true rfl, Nat.le_of_ble_eq_true rfl⟩) (va_recv hK hP (ci := 3) (q0 := 0) rfl rfl) hK hP hD hS hA rfl hl.1 rfl (Nat.le_of_ble_eq_true rfl) dX3_putNew_55 ⟨Nat.zero_le _, Nat.zero_le _⟩ (fun r36 u35 H locs hw hP hD hS => ?_)
        obtain ⟨hz, hw⟩ := hw
        refine lv_if_eq (tgt := 108) hx hb dX3_putNew_58 (by decide) (fun c37 => ?_) (fun c37 => ?_)
        · have hw := brN.t hw c37
          refine lv_aload_n hx hb dX3_putNew_108 rfl (lv_at hl 0 rfl) ?_
          refine lv_iload_n hx hb dX3_putNew_109 rfl (lv_at hl 2 rfl) ?_
          refine CtV.call (As := [.int a3]) (rest := []) (c_X3_hang l G am cI cZ a3 u35 _ hw) ⟨hx, hb, hml, hown, hts⟩ (cwV 1 hts gX3_putNew_X3_hang rfl rfl rfl (by decide +kernel) ⟨Nat.le_of_ble_eq_true rfl, Nat.le_of_ble_eq_true rfl⟩) (va_recv hK hP (ci := 3) (q0 := 0) rfl rfl) hK hP hD hS hA rfl hl.1 rfl (Nat.le_of_ble_eq_true rfl) dX3_putNew_110 ⟨Nat.zero_le _, Nat.zero_le _⟩ (fun u38 H locs hw hP hD hS => ?_)
          refine lv_iconst (v := (-1)) hx hb dX3_putNew_113 (by decide) ?_
          refine lv_istore (lv' := [(5, .int (-1)), (0, .ref (am 0)), (1, .int a1), (3, .int a3), (4, .int a4)]) hx hb dX3_putNew_114 hl (by decide) rfl (fun ls hl => ?_)
          refine lv_iconst (v := (-1)) hx hb dX3_putNew_116 (by decide) ?_
          refine lv_istore (lv' := [(6, .int (-1)), (5, .int (-1)), (0, .ref (am 0)), (1, .int a1), (3, .int a3), (4, .int a4)]) hx hb dX3_putNew_117 hl (by decide) rfl (fun ls hl => ?_)
          obtain ⟨n9, hw⟩ := hw
          exact hlp119 n9 a1 a3 a4 (-1) (-1) u38 hw _ _ hP hD hS _ (lv_sub hl [2, 3, 4, 5, 1, 0] rfl)
        · have hw := brN.f hw c37
          refine lv_aload_n hx hb dX3_putNew_61 rfl (lv_at hl 0 rfl) ?_
          refine lv_aload_n hx hb dX3_putNew_62 rfl (lv_at hl 0 rfl) ?_
          refine va_get (D := G) (ci := 3) (v := .ref (am 11)) (C := RX3) (T := TX3) (N := 24) hx hb hts hiX3 hown hK hP 0 rfl rfl 23 (by decide) (hts (.fieldLink RX3 41 "TreapVersionsModel" "way" "[I") (by decide +kernel)) (fun _ h9 => h9) rfl dX3_putNew_63 ?_
          refine lv_iload hx hb dX3_putNew_66 (lv_at hl 3 rfl) ?_
          refine va_iald hx hb hK hP 11 0 rfl rfl (rdA.hin hw) dX3_putNew_68 ?_
          refine lv_topi (fun z39 ez39 => ?_)
          have hw := rdA.go hw z39 ez39
          refine CtI.call (As := [.int z39]) (rest := []) (c_X3_copy l G am cI cZ z39 u35 _ hw) ⟨hx, hb, hml, hown, hts⟩ (cwV 1 hts gX3_putNew_X3_copy rfl rfl rfl (by decide +kernel) ⟨Nat.le_of_ble_eq_true rfl, Nat.le_of_ble_eq_true rfl⟩) (va_recv hK hP (ci := 3) (q0 := 0) rfl rfl) hK hP hD hS hA rfl hl.1 rfl (Nat.le_of_ble_eq_true rfl) dX3_putNew_69 ⟨Nat.zero_le _, Nat.zero_le _⟩ (fun r41 u40 H locs hw hP hD hS => ?_)
          refine lv_istore (lv' := [(5, .int r41), (0, .ref (am 0)), (1, .int a1), (3, .int a3), (4, .int a4)]) hx hb dX3_putNew_72 hl (by decide) rfl (fun ls hl => ?_)
          refine lv_aload_n hx hb dX3_putNew_74 rfl (lv_at hl 1 rfl) ?_
          refine lv_iload hx hb dX3_putNew_75 (lv_at hl 0 rfl) ?_
          refine CtV.call (As := [.int r41]) (rest := []) (c_X3_hang l G am cI cZ r41 u40 _ hw) ⟨hx, hb, hml, hown, hts⟩ (cwV 1 hts gX3_putNew_X3_hang rfl rfl rfl (by decide +kernel) ⟨Nat.le_of_ble_eq_true rfl, Nat.le_of_ble_eq_true rfl⟩) (va_recv hK hP (ci := 3) (q0 := 0) rfl rfl) hK hP hD hS hA rfl hl.1 rfl (Nat.le_of_ble_eq_true rfl) dX3_putNew_77 ⟨Nat.zero_le _, Nat.zero_le _⟩ (fun u42 H locs hw hP hD hS => ?_)
          refine lv_aload_n hx hb dX3_putNew_80 rfl (lv_at hl 1 rfl) ?_
          refine lv_iload hx hb dX3_putNew_81 (lv_at hl 0 rfl) ?_
          refine lv_aload_n hx hb dX3_putNew_83 rfl (lv_at hl 1 rfl) ?_
          refine va_get (D := G) (ci := 3) (v := .ref (am 1)) (C := RX3) (T := TX3) (N := 24) hx hb hts hiX3 hown hK hP 0 rfl rfl 6 (by decide) (hts (.fieldLink RX3 7 "TreapVersionsModel" "key" "[I") (by decide +kernel)) (fun _ h9 => h9) rfl dX3_putNew_84 ?_
          refine lv_iload hx hb dX3_putNew_87 (lv_at hl 0 rfl) ?_
          refine va_iald hx hb hK hP 1 0 rfl rfl (rdA.hin hw) dX3_putNew_89 ?_
          refine lv_topi (fun z43 ez43 => ?_)
          have hw := rdA.go hw z43 ez43
          refine lv_iload_n hx hb dX3_putNew_90 rfl (lv_at hl 2 rfl) ?_
          refine lv_icmp_ge (tgt := 98) hx hb dX3_putNew_91 (by decide) (fun c44 => ?_) (fun c44 => ?_)
          · have hw := brN.t hw c44
            refine lv_iconst (v := 0) hx hb dX3_putNew_98 (by decide) ?_
            refine CtV.call (As := [.int r41, .int 0]) (rest := []) (c_X3_holeAt l G am cI cZ r41 0 u42 _ hw) ⟨hx, hb, hml, hown, hts⟩ (cwV 2 hts gX3_putNew_X3_holeAt rfl rfl rfl (by decide +kernel) ⟨Nat.le_of_ble_eq_true rfl, Nat.le_of_ble_eq_true rfl⟩) (va_recv hK hP (ci := 3) (q0 := 0) rfl rfl) hK hP hD hS hA rfl hl.1 rfl (Nat.le_of_ble_eq_true rfl) dX3_putNew_99 ⟨Nat.zero_le _, Nat.zero_le _⟩ (fun u45 H locs hw hP hD hS => ?_)
            obtain ⟨z46, ez46⟩ : ∃ y : Int32, y = a4 + 1 := ⟨_, rfl⟩
            have hw := nmI.go hw z46 ez46
            refine lv_iinc (v := z46) (lv' := [(4, .int z46), (5, .int r41), (0, .ref (am 0)), (1, .int a1), (3, .int a3)]) hx hb dX3_putNew_102 hl (k := 4) rfl (by rw [ez46]; rfl) (by decide) rfl (fun ls hl => ?_)
            refine lv_goto (tgt := 37) hx hb dX3_putNew_105 (by decide) ?_
            exact ih a1 a3 z46 u45 hw _ _ hP hD hS _ (lv_sub hl [2, 3, 4, 0] rfl)
          · have hw := brN.f hw c44
            refine lv_iconst (v := 1) hx hb dX3_putNew_94 (by decide) ?_
            refine lv_goto (tgt := 99) hx hb dX3_putNew_95 (by decide) ?_
            refine CtV.call (As := [.int r41, .int 1]) (rest := []) (c_X3_holeAt l G am cI cZ r41 1 u42 _ hw) ⟨hx, hb, hml, hown, hts⟩ (cwV 2 hts gX3_putNew_X3_holeAt rfl rfl rfl (by decide +kernel) ⟨Nat.le_of_ble_eq_true rfl, Nat.le_of_ble_eq_true rfl⟩) (va_recv hK hP (ci := 3) (q0 := 0) rfl rfl) hK hP hD hS hA rfl hl.1 rfl (Nat.le_of_ble_eq_true rfl) dX3_putNew_99 ⟨Nat.zero_le _, Nat.zero_le _⟩ (fun u47 H locs hw hP hD hS => ?_)
            obtain ⟨z48, ez48⟩ : ∃ y : Int32, y = a4 + 1 := ⟨_, rfl⟩
            have hw := nmI.go hw z48 ez48
            refine lv_iinc (v := z48) (lv' := [(4, .int z48), (5, .int r41), (0, .ref (am 0)), (1, .int a1), (3, .int a3)]) hx hb dX3_putNew_102 hl (k := 4) rfl (by rw [ez48]; rfl) (by decide) rfl (fun ls hl => ?_)
            refine lv_goto (tgt := 37) hx hb dX3_putNew_105 (by decide) ?_
            exact ih a1 a3 z48 u47 hw _ _ hP hD hS _ (lv_sub hl [2, 3, 4, 0] rfl)
  unfold wp_X3_putNew at hw
  refine lv_aload_n hx hb dX3_putNew_0 rfl (lv_at hl 0 rfl) ?_
  refine lv_aload_n hx hb dX3_putNew_1 rfl (lv_at hl 0 rfl) ?_
  refine va_get (D := G) (ci := 3) (v := .int (u 3 0)) (C := RX3) (T := TX3) (N := 24) hx hb hts hiX3 hown hK hP 0 rfl rfl 3 (by decide) (hts (.fieldLink RX3 51 "TreapVersionsModel" "seed" "I") (by decide +kernel)) (fun _ h9 => h9) rfl dX3_putNew_2 ?_
  refine lv_topi (fun z1 ez1 => ?_)
  have hw := nmI.go hw z1 ez1
  refine lv_ldc (v := 1103515245) hx hb hown (hts (.constant RX3 113 1103515245) (by decide +kernel)) dX3_putNew_5 ?_
  refine lv_imul hx hb dX3_putNew_7 ?_
  refine lv_topi (fun z2 ez2 => ?_)
  have hw := nmI.go hw z2 ez2
  refine lv_sipush (v := 12345) hx hb dX3_putNew_8 (by decide) ?_
  refine lv_iadd hx hb dX3_putNew_11 ?_
  refine lv_topi (fun z3 ez3 => ?_)
  have hw := nmI.go hw z3 ez3
  refine va_put (D := G) (ci := 3) (v := .int z3) (ty := .int) (C := RX3) (T := TX3) (N := 24) hx hb hts hiX3 tyX3 tyX3_ok nmX3 hown hK hP hD hS 0 rfl rfl 3 (by decide) (hts (.fieldLink RX3 51 "TreapVersionsModel" "seed" "I") (by decide +kernel)) (fun _ h9 => h9) rfl (by decide +kernel) rfl rfl (Nat.le_of_ble_eq_true rfl) dX3_putNew_12 (fun H locs hP hD hS => ?_)
  obtain ⟨u4, eu4⟩ : ∃ z : CS, z = cset u 3 (fun _ => z3) := ⟨_, rfl⟩
  have hP : va_P G vwCl (mw am cI cZ (cset u 3 (fun _ => z3))) H := hP
  have hD : va_D A (mw am cI cZ (cset u 3 (fun _ => z3))) := hD
  rw [← eu4] at hP hD
  have hw := stF.go hw u4 eu4
  refine lv_aload_n hx hb dX3_putNew_15 rfl (lv_at hl 0 rfl) ?_
  refine lv_iload_n hx hb dX3_putNew_16 rfl (lv_at hl 1 rfl) ?_
  refine lv_iload_n hx hb dX3_putNew_17 rfl (lv_at hl 2 rfl) ?_
  refine lv_aload_n hx hb dX3_putNew_18 rfl (lv_at hl 0 rfl) ?_
  refine va_get (D := G) (ci := 3) (v := .int (u4 3 0)) (C := RX3) (T := TX3) (N := 24) hx hb hts hiX3 hown hK hP 0 rfl rfl 3 (by decide) (hts (.fieldLink RX3 51 "TreapVersionsModel" "seed" "I") (by decide +kernel)) (fun _ h9 => h9) rfl dX3_putNew_19 ?_
  refine lv_topi (fun z5 ez5 => ?_)
  have hw := nmI.go hw z5 ez5
  refine lv_bipush (v := 16) hx hb dX3_putNew_22 (by decide) ?_
  refine lv_ishr hx hb dX3_putNew_24 ?_
  refine lv_topi (fun z6 ez6 => ?_)
  have hw := nmI.go hw z6 ez6
  refine lv_bipush (v := 15) hx hb dX3_putNew_25 (by decide) ?_
  refine lv_iand hx hb dX3_putNew_27 ?_
  refine lv_topi (fun z7 ez7 => ?_)
  have hw := nmI.go hw z7 ez7
  refine lv_iconst (v := (-1)) hx hb dX3_putNew_28 (by decide) ?_
  refine lv_iconst (v := (-1)) hx hb dX3_putNew_29 (by decide) ?_
  refine CtI.call (As := [.int p0, .int p1, .int z7, .int (-1), .int (-1)]) (rest := []) (c_X3_make l G am cI cZ p0 p1 z7 (-1) (-1) u4 _ hw) ⟨hx, hb, hml, hown, hts⟩ (cwV 5 hts gX3_putNew_X3_make rfl rfl rfl (by decide +kernel) ⟨Nat.le_of_ble_eq_true rfl, Nat.le_of_ble_eq_true rfl⟩) (va_recv hK hP (ci := 3) (q0 := 0) rfl rfl) hK hP hD hS hA rfl hl.1 rfl (Nat.le_of_ble_eq_true rfl) dX3_putNew_30 ⟨Nat.zero_le _, Nat.zero_le _⟩ (fun r9 u8 H locs hw hP hD hS => ?_)
  refine lv_istore_n (lv' := [(3, .int r9), (0, .ref (am 0)), (1, .int p0), (2, .int p1)]) hx hb dX3_putNew_33 rfl hl (by decide) rfl (fun ls hl => ?_)
  refine lv_iconst (v := 0) hx hb dX3_putNew_34 (by decide) ?_
  refine lv_istore (lv' := [(4, .int 0), (3, .int r9), (0, .ref (am 0)), (1, .int p0), (2, .int p1)]) hx hb dX3_putNew_35 hl (by decide) rfl (fun ls hl => ?_)
  obtain ⟨n9, hw⟩ := hw
  exact hlp37 n9 p0 r9 0 u8 hw _ _ hP hD hS _ (lv_sub hl [2, 3, 1, 0] rfl)
