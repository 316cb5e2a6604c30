set_option maxHeartbeats 4000000 in
set_option maxRecDepth 100000 in
theorem c_X1_noteTo (l : Launch) (G : va_G) (ad : Nat → Nat) (C V : Nat) (cI cZ : ClassId) (p0 : Int32) (p1 : Int32) (u : CS) (post : Int32 → CS → Prop) (hw : wp_X1_noteTo C V p0 p1 u post) : CtI l yX1_noteTo wsX1_noteTo ({ frames := 0, cells := 0, slots := 0, locals := 0 }) G (ty2 cI cZ) (cw ad C V cI cZ) [.ref (ad 2), .int p0, .int p1] u post := by
  refine CtI.of (cc := cX1_noteTo) (maxL := 4) (rt := .int) (by decide) rfl (Nat.le_of_ble_eq_true rfl) ?_
  intro p e s m below meth c A Q hx hb hml hts hown hK hA hret ls hl hP hD hS
  have hiX0 : ∀ w ∈ u_ws RX0 TX0 11, w ∈ wsX1_noteTo := by decide +kernel
  have hiX1 : ∀ w ∈ u_ws RX1 TX1 3, w ∈ wsX1_noteTo := by decide +kernel
  have hown : s.vm.findClass RX1 = some m.cls := hown
  have hl : lv_has ls 4 [(0, .ref (ad 2)), (1, .int p0), (2, .int p1)] := hl
  have hlp7 : ∀ (n : Nat) (a2 : Int32) (a3 : Int32) (u : CS), lp_X1_noteTo_7 C V post n a2 a3 u → ∀ (H : Heap) (locs : List Loc), va_P G vwCl (cw ad C V cI cZ u) H → va_D A (cw ad C V cI cZ u) → va_S A s.heap H locs → ∀ ls : Array Slot, lv_has ls 4 [(0, .ref (ad 2)), (2, .int a2), (3, .int a3)] → W p l e ({ frames := 0, cells := 0, slots := 0, locals := 0 }) s m ([.ref (ad 2), .int p0, .int p1] : List Value).toArray below meth c H locs 0 0 Q (F0 m 7 ls []) := by
    clear hw hl hP hD hS
    intro n
    induction n with
    | zero => intro a2 a3 u hw; exact False.elim hw
    | succ n ih =>
      intro a2 a3 u hw H locs hP hD hS ls hl
      unfold lp_X1_noteTo_7 at hw
      refine lv_aload_n hx hb dX1_noteTo_7 rfl (lv_at hl 0 rfl) ?_
      refine va_get (D := G) (ci := 1) (v := .int (u 11 0)) (C := RX1) (T := TX1) (N := 3) hx hb hts hiX1 hown hK hP 2 rfl rfl 2 (by decide) (hts (.fieldLink RX1 25 "TreapVersions$Way" "length" "I") (by decide +kernel)) (fun _ h9 => h9) rfl dX1_noteTo_8 ?_
      refine lv_topi (fun z2 ez2 => ?_)
      have hw := nmI.go hw z2 ez2
      refine lv_aload_n hx hb dX1_noteTo_11 rfl (lv_at hl 0 rfl) ?_
      refine va_get (D := G) (ci := 1) (v := .ref (ad 14)) (C := RX1) (T := TX1) (N := 3) hx hb hts hiX1 hown hK hP 2 rfl rfl 1 (by decide) (hts (.fieldLink RX1 21 "TreapVersions$Way" "noted" "[I") (by decide +kernel)) (fun _ h9 => h9) rfl dX1_noteTo_12 ?_
      refine va_alen hx hb hK hP 14 0 rfl rfl (v := nI C) rfl dX1_noteTo_15 ?_
      refine lv_topi (fun z3 ez3 => ?_)
      have hw := nmI.go hw z3 ez3
      refine lv_icmp_ge (tgt := 94) hx hb dX1_noteTo_16 (by decide) (fun c4 => ?_) (fun c4 => ?_)
      · have hw := brN.t hw c4
        refine lv_iload_n hx hb dX1_noteTo_94 rfl (lv_at hl 2 rfl) ?_
        exact hret a3 u 95 _ _ _ dX1_noteTo_95 rfl hw hP hD hS
      · have hw := brN.f hw c4
        refine lv_iload_n hx hb dX1_noteTo_19 rfl (lv_at hl 2 rfl) ?_
        refine lv_if_eq (tgt := 94) hx hb dX1_noteTo_20 (by decide) (fun c5 => ?_) (fun c5 => ?_)
        · have hw := brN.t hw c5
          refine lv_iload_n hx hb dX1_noteTo_94 rfl (lv_at hl 2 rfl) ?_
          exact hret a3 u 95 _ _ _ dX1_noteTo_95 rfl hw hP hD hS
        · have hw := brN.f hw c5
          refine lv_aload_n hx hb dX1_noteTo_23 rfl (lv_at hl 0 rfl) ?_
          refine va_get (D := G) (ci := 1) (v := .ref (ad 1)) (C := RX1) (T := TX1) (N := 3) hx hb hts hiX1 hown hK hP 2 rfl rfl 0 (by decide) (hts (.fieldLink RX1 9 "TreapVersions$Way" "store" "LTreapVersions$Store;") (by decide +kernel)) (fun _ h9 => h9) rfl dX1_noteTo_24 ?_
          refine va_get (D := G) (ci := 0) (v := .ref (ad 5)) (C := RX0) (T := TX0) (N := 11) hx hb hts hiX0 hown hK hP 1 rfl rfl 1 (by decide) (hts (.fieldLink RX1 28 "TreapVersions$Store" "key" "[I") (by decide +kernel)) (fun _ h9 => h9) rfl dX1_noteTo_27 ?_
          refine lv_iload_n hx hb dX1_noteTo_30 rfl (lv_at hl 2 rfl) ?_
          refine va_iald hx hb hK hP 5 0 rfl rfl (rdA.hin hw) dX1_noteTo_31 ?_
          refine lv_topi (fun z6 ez6 => ?_)
          have hw := rdA.go hw z6 ez6
          refine lv_iload_n hx hb dX1_noteTo_32 rfl (lv_at hl 1 rfl) ?_
          refine lv_icmp_eq (tgt := 94) hx hb dX1_noteTo_33 (by decide) (fun c7 => ?_) (fun c7 => ?_)
          · have hw := brN.t hw c7
            refine lv_iload_n hx hb dX1_noteTo_94 rfl (lv_at hl 2 rfl) ?_
            exact hret a3 u 95 _ _ _ dX1_noteTo_95 rfl hw hP hD hS
          · have hw := brN.f hw c7
            refine lv_aload_n hx hb dX1_noteTo_36 rfl (lv_at hl 0 rfl) ?_
            refine va_get (D := G) (ci := 1) (v := .ref (ad 14)) (C := RX1) (T := TX1) (N := 3) hx hb hts hiX1 hown hK hP 2 rfl rfl 1 (by decide) (hts (.fieldLink RX1 21 "TreapVersions$Way" "noted" "[I") (by decide +kernel)) (fun _ h9 => h9) rfl dX1_noteTo_37 ?_
            refine lv_aload_n hx hb dX1_noteTo_40 rfl (lv_at hl 0 rfl) ?_
            refine va_get (D := G) (ci := 1) (v := .int (u 11 0)) (C := RX1) (T := TX1) (N := 3) hx hb hts hiX1 hown hK hP 2 rfl rfl 2 (by decide) (hts (.fieldLink RX1 25 "TreapVersions$Way" "length" "I") (by decide +kernel)) (fun _ h9 => h9) rfl dX1_noteTo_41 ?_
            refine lv_topi (fun z8 ez8 => ?_)
            have hw := nmI.go hw z8 ez8
            refine lv_iload_n hx hb dX1_noteTo_44 rfl (lv_at hl 2 rfl) ?_
            refine va_iast hx hb hK hP hD hS 14 0 rfl rfl (wrA.hin hw) dX1_noteTo_45 (fun H locs hP hD hS => ?_)
            obtain ⟨u9, eu9⟩ : ∃ z : CS, z = cset u 10 (upd (u 10) z8.toNatClampNeg a3) := ⟨_, rfl⟩
            have hP : va_P G vwCl (cw ad C V cI cZ (cset u 10 (upd (u 10) z8.toNatClampNeg a3))) H := hP
            have hD : va_D A (cw ad C V cI cZ (cset u 10 (upd (u 10) z8.toNatClampNeg a3))) := hD
            rw [← eu9] at hP hD
            have hw := wrA.go hw u9 eu9
            refine lv_aload_n hx hb dX1_noteTo_46 rfl (lv_at hl 0 rfl) ?_
            refine lv_dup hx hb dX1_noteTo_47 rfl ?_
            refine va_get (D := G) (ci := 1) (v := .int (u9 11 0)) (C := RX1) (T := TX1) (N := 3) hx hb hts hiX1 hown hK hP 2 rfl rfl 2 (by decide) (hts (.fieldLink RX1 25 "TreapVersions$Way" "length" "I") (by decide +kernel)) (fun _ h9 => h9) rfl dX1_noteTo_48 ?_
            refine lv_topi (fun z10 ez10 => ?_)
            have hw := nmI.go hw z10 ez10
            refine lv_iconst (v := 1) hx hb dX1_noteTo_51 (by decide) ?_
            refine lv_iadd hx hb dX1_noteTo_52 ?_
            refine lv_topi (fun z11 ez11 => ?_)
            have hw := nmI.go hw z11 ez11
            refine va_put (D := G) (ci := 1) (v := .int z11) (ty := .int) (C := RX1) (T := TX1) (N := 3) hx hb hts hiX1 tyX1 tyX1_ok nmX1 hown hK hP hD hS 2 rfl rfl 2 (by decide) (hts (.fieldLink RX1 25 "TreapVersions$Way" "length" "I") (by decide +kernel)) (fun _ h9 => h9) rfl (by decide +kernel) rfl rfl (Nat.le_of_ble_eq_true rfl) dX1_noteTo_53 (fun H locs hP hD hS => ?_)
            obtain ⟨u12, eu12⟩ : ∃ z : CS, z = cset u9 11 (fun _ => z11) := ⟨_, rfl⟩
            have hP : va_P G vwCl (cw ad C V cI cZ (cset u9 11 (fun _ => z11))) H := hP
            have hD : va_D A (cw ad C V cI cZ (cset u9 11 (fun _ => z11))) := hD
            rw [← eu12] at hP hD
            have hw := stF.go hw u12 eu12
            refine lv_aload_n hx hb dX1_noteTo_56 rfl (lv_at hl 0 rfl) ?_
            refine va_get (D := G) (ci := 1) (v := .ref (ad 1)) (C := RX1) (T := TX1) (N := 3) hx hb hts hiX1 hown hK hP 2 rfl rfl 0 (by decide) (hts (.fieldLink RX1 9 "TreapVersions$Way" "store" "LTreapVersions$Store;") (by decide +kernel)) (fun _ h9 => h9) rfl dX1_noteTo_57 ?_
            refine va_get (D := G) (ci := 0) (v := .ref (ad 5)) (C := RX0) (T := TX0) (N := 11) hx hb hts hiX0 hown hK hP 1 rfl rfl 1 (by decide) (hts (.fieldLink RX1 28 "TreapVersions$Store" "key" "[I") (by decide +kernel)) (fun _ h9 => h9) rfl dX1_noteTo_60 ?_
            refine lv_iload_n hx hb dX1_noteTo_63 rfl (lv_at hl 2 rfl) ?_
            refine va_iald hx hb hK hP 5 0 rfl rfl (rdA.hin hw) dX1_noteTo_64 ?_
            refine lv_topi (fun z13 ez13 => ?_)
            have hw := rdA.go hw z13 ez13
            refine lv_iload_n hx hb dX1_noteTo_65 rfl (lv_at hl 1 rfl) ?_
            refine lv_icmp_ge (tgt := 81) hx hb dX1_noteTo_66 (by decide) (fun c14 => ?_) (fun c14 => ?_)
            · have hw := brN.t hw c14
              refine lv_aload_n hx hb dX1_noteTo_81 rfl (lv_at hl 0 rfl) ?_
              refine va_get (D := G) (ci := 1) (v := .ref (ad 1)) (C := RX1) (T := TX1) (N := 3) hx hb hts hiX1 hown hK hP 2 rfl rfl 0 (by decide) (hts (.fieldLink RX1 9 "TreapVersions$Way" "store" "LTreapVersions$Store;") (by decide +kernel)) (fun _ h9 => h9) rfl dX1_noteTo_82 ?_
              refine va_get (D := G) (ci := 0) (v := .ref (ad 8)) (C := RX0) (T := TX0) (N := 11) hx hb hts hiX0 hown hK hP 1 rfl rfl 4 (by decide) (hts (.fieldLink RX1 34 "TreapVersions$Store" "left" "[I") (by decide +kernel)) (fun _ h9 => h9) rfl dX1_noteTo_85 ?_
              refine lv_iload_n hx hb dX1_noteTo_88 rfl (lv_at hl 2 rfl) ?_
              refine va_iald hx hb hK hP 8 0 rfl rfl (rdA.hin hw) dX1_noteTo_89 ?_
              refine lv_topi (fun z15 ez15 => ?_)
              have hw := rdA.go hw z15 ez15
              refine lv_istore_n (lv' := [(3, .int z15), (0, .ref (ad 2)), (2, .int a2)]) hx hb dX1_noteTo_90 rfl hl (by decide) rfl (fun ls hl => ?_)
              refine lv_goto (tgt := 7) hx hb dX1_noteTo_91 (by decide) ?_
              exact ih a2 z15 u12 hw _ _ hP hD hS _ (lv_sub hl [1, 2, 0] rfl)
            · have hw := brN.f hw c14
              refine lv_aload_n hx hb dX1_noteTo_69 rfl (lv_at hl 0 rfl) ?_
              refine va_get (D := G) (ci := 1) (v := .ref (ad 1)) (C := RX1) (T := TX1) (N := 3) hx hb hts hiX1 hown hK hP 2 rfl rfl 0 (by decide) (hts (.fieldLink RX1 9 "TreapVersions$Way" "store" "LTreapVersions$Store;") (by decide +kernel)) (fun _ h9 => h9) rfl dX1_noteTo_70 ?_
              refine va_get (D := G) (ci := 0) (v := .ref (ad 9)) (C := RX0) (T := TX0) (N := 11) hx hb hts hiX0 hown hK hP 1 rfl rfl 5 (by decide) (hts (.fieldLink RX1 31 "TreapVersions$Store" "right" "[I") (by decide +kernel)) (fun _ h9 => h9) rfl dX1_noteTo_73 ?_
              refine lv_iload_n hx hb dX1_noteTo_76 rfl (lv_at hl 2 rfl) ?_
              refine va_iald hx hb hK hP 9 0 rfl rfl (rdA.hin hw) dX1_noteTo_77 ?_
              refine lv_topi (fun z16 ez16 => ?_)
              have hw := rdA.go hw z16 ez16
              refine lv_goto (tgt := 90) hx hb dX1_noteTo_78 (by decide) ?_
              refine lv_istore_n (lv' := [(3, .int z16), (0, .ref (ad 2)), (2, .int a2)]) hx hb dX1_noteTo_90 rfl hl (by decide) rfl (fun ls hl => ?_)
              refine lv_goto (tgt := 7) hx hb dX1_noteTo_91 (by decide) ?_
              exact ih a2 z16 u12 hw _ _ hP hD hS _ (lv_sub hl [1, 2, 0] rfl)
  unfold wp_X1_noteTo at hw
  refine lv_aload_n hx hb dX1_noteTo_0 rfl (lv_at hl 0 rfl) ?_
  refine lv_iconst (v := 0) hx hb dX1_noteTo_1 (by decide) ?_
  refine va_put (D := G) (ci := 1) (v := .int 0) (ty := .int) (C := RX1) (T := TX1) (N := 3) hx hb hts hiX1 tyX1 tyX1_ok nmX1 hown hK hP hD hS 2 rfl rfl 2 (by decide) (hts (.fieldLink RX1 25 "TreapVersions$Way" "length" "I") (by decide +kernel)) (fun _ h9 => h9) rfl (by decide +kernel) rfl rfl (Nat.le_of_ble_eq_true rfl) dX1_noteTo_2 (fun H locs hP hD hS => ?_)
  obtain ⟨u1, eu1⟩ : ∃ z : CS, z = cset u 11 (fun _ => 0) := ⟨_, rfl⟩
  have hP : va_P G vwCl (cw ad C V cI cZ (cset u 11 (fun _ => 0))) H := hP
  have hD : va_D A (cw ad C V cI cZ (cset u 11 (fun _ => 0))) := hD
  rw [← eu1] at hP hD
  have hw := stF.go hw u1 eu1
  refine lv_iload_n hx hb dX1_noteTo_5 rfl (lv_at hl 1 rfl) ?_
  refine lv_istore_n (lv' := [(3, .int p0), (0, .ref (ad 2)), (1, .int p0), (2, .int p1)]) hx hb dX1_noteTo_6 rfl hl (by decide) rfl (fun ls hl => ?_)
  obtain ⟨n9, hw⟩ := hw
  exact hlp7 n9 p1 p0 u1 hw _ _ hP hD hS _ (lv_sub hl [1, 3, 0] rfl)
set_option maxHeartbeats 4000000 in
set_option maxRecDepth 100000 in
theorem c_X1_noteLesser (l : Launch) (G : va_G) (ad : Nat → Nat) (C V : Nat) (cI cZ : ClassId) (p0 : Int32) (p1 : Int32) (u : CS) (post : CS → Prop) (hw : wp_X1_noteLesser C V p0 p1 u post) : CtV l yX1_noteLesser wsX1_noteLesser ({ frames := 0, cells := 0, slots := 0, locals := 0 }) G (ty2 cI cZ) (cw ad C V cI cZ) [.ref (ad 2), .int p0, .int p1] u post := by
  refine CtV.of (cc := cX1_noteLesser) (maxL := 5) (by decide) rfl (Nat.le_of_ble_eq_true rfl) ?_
  intro p e s m below meth c A Q hx hb hml hts hown hK hA hret ls hl hP hD hS
  have hiX0 : ∀ w ∈ u_ws RX0 TX0 11, w ∈ wsX1_noteLesser := by decide +kernel
  have hiX1 : ∀ w ∈ u_ws RX1 TX1 3, w ∈ wsX1_noteLesser := by decide +kernel
  have hown : s.vm.findClass RX1 = some m.cls := hown
  have hl : lv_has ls 5 [(0, .ref (ad 2)), (1, .int p0), (2, .int p1)] := hl
  have hlp10 : ∀ (n : Nat) (a2 : Int32) (a3 : Int32) (a4 : Int32) (u : CS), lp_X1_noteLesser_10 C V post n a2 a3 a4 u → ∀ (H : Heap) (locs : List Loc), va_P G vwCl (cw ad C V cI cZ u) H → va_D A (cw ad C V cI cZ u) → va_S A s.heap H locs → ∀ ls : Array Slot, lv_has ls 5 [(0, .ref (ad 2)), (2, .int a2), (3, .int a3), (4, .int a4)] → W p l e ({ frames := 0, cells := 0, slots := 0, locals := 0 }) s m ([.ref (ad 2), .int p0, .int p1] : List Value).toArray below meth c H locs 0 0 Q (F0 m 10 ls []) := by
    clear hw hl hP hD hS
    intro n
    induction n with
    | zero => intro a2 a3 a4 u hw; exact False.elim hw
    | succ n ih =>
      intro a2 a3 a4 u hw H locs hP hD hS ls hl
      unfold lp_X1_noteLesser_10 at hw
      refine lv_iload hx hb dX1_noteLesser_10 (lv_at hl 3 rfl) ?_
      refine lv_aload_n hx hb dX1_noteLesser_12 rfl (lv_at hl 0 rfl) ?_
      refine va_get (D := G) (ci := 1) (v := .ref (ad 14)) (C := RX1) (T := TX1) (N := 3) hx hb hts hiX1 hown hK hP 2 rfl rfl 1 (by decide) (hts (.fieldLink RX1 21 "TreapVersions$Way" "noted" "[I") (by decide +kernel)) (fun _ h9 => h9) rfl dX1_noteLesser_13 ?_
      refine va_alen hx hb hK hP 14 0 rfl rfl (v := nI C) rfl dX1_noteLesser_16 ?_
      refine lv_topi (fun z2 ez2 => ?_)
      have hw := nmI.go hw z2 ez2
      refine lv_icmp_ge (tgt := 86) hx hb dX1_noteLesser_17 (by decide) (fun c3 => ?_) (fun c3 => ?_)
      · have hw := brN.t hw c3
        exact hret u 86 _ _ _ dX1_noteLesser_86 hw hP hD hS
      · have hw := brN.f hw c3
        refine lv_iload_n hx hb dX1_noteLesser_20 rfl (lv_at hl 2 rfl) ?_
        refine lv_if_eq (tgt := 86) hx hb dX1_noteLesser_21 (by decide) (fun c4 => ?_) (fun c4 => ?_)
        · have hw := brN.t hw c4
          exact hret u 86 _ _ _ dX1_noteLesser_86 hw hP hD hS
        · have hw := brN.f hw c4
          refine lv_aload_n hx hb dX1_noteLesser_24 rfl (lv_at hl 0 rfl) ?_
          refine va_get (D := G) (ci := 1) (v := .ref (ad 1)) (C := RX1) (T := TX1) (N := 3) hx hb hts hiX1 hown hK hP 2 rfl rfl 0 (by decide) (hts (.fieldLink RX1 9 "TreapVersions$Way" "store" "LTreapVersions$Store;") (by decide +kernel)) (fun _ h9 => h9) rfl dX1_noteLesser_25 ?_
          refine va_get (D := G) (ci := 0) (v := .ref (ad 5)) (C := RX0) (T := TX0) (N := 11) hx hb hts hiX0 hown hK hP 1 rfl rfl 1 (by decide) (hts (.fieldLink RX1 28 "TreapVersions$Store" "key" "[I") (by decide +kernel)) (fun _ h9 => h9) rfl dX1_noteLesser_28 ?_
          refine lv_iload_n hx hb dX1_noteLesser_31 rfl (lv_at hl 2 rfl) ?_
          refine va_iald hx hb hK hP 5 0 rfl rfl (rdA.hin hw) dX1_noteLesser_32 ?_
          refine lv_topi (fun z5 ez5 => ?_)
          have hw := rdA.go hw z5 ez5
          refine lv_iload_n hx hb dX1_noteLesser_33 rfl (lv_at hl 1 rfl) ?_
          refine lv_icmp_ge (tgt := 70) hx hb dX1_noteLesser_34 (by decide) (fun c6 => ?_) (fun c6 => ?_)
          · have hw := brN.t hw c6
            refine lv_aload_n hx hb dX1_noteLesser_70 rfl (lv_at hl 0 rfl) ?_
            refine va_get (D := G) (ci := 1) (v := .ref (ad 1)) (C := RX1) (T := TX1) (N := 3) hx hb hts hiX1 hown hK hP 2 rfl rfl 0 (by decide) (hts (.fieldLink RX1 9 "TreapVersions$Way" "store" "LTreapVersions$Store;") (by decide +kernel)) (fun _ h9 => h9) rfl dX1_noteLesser_71 ?_
            refine va_get (D := G) (ci := 0) (v := .ref (ad 8)) (C := RX0) (T := TX0) (N := 11) hx hb hts hiX0 hown hK hP 1 rfl rfl 4 (by decide) (hts (.fieldLink RX1 34 "TreapVersions$Store" "left" "[I") (by decide +kernel)) (fun _ h9 => h9) rfl dX1_noteLesser_74 ?_
            refine lv_iload_n hx hb dX1_noteLesser_77 rfl (lv_at hl 2 rfl) ?_
            refine va_iald hx hb hK hP 8 0 rfl rfl (rdA.hin hw) dX1_noteLesser_78 ?_
            refine lv_topi (fun z7 ez7 => ?_)
            have hw := rdA.go hw z7 ez7
            refine lv_istore_n (lv' := [(3, .int z7), (0, .ref (ad 2)), (2, .int a2), (4, .int a4)]) hx hb dX1_noteLesser_79 rfl hl (by decide) rfl (fun ls hl => ?_)
            obtain ⟨z8, ez8⟩ : ∃ y : Int32, y = a4 + 1 := ⟨_, rfl⟩
            have hw := nmI.go hw z8 ez8
            refine lv_iinc (v := z8) (lv' := [(4, .int z8), (3, .int z7), (0, .ref (ad 2)), (2, .int a2)]) hx hb dX1_noteLesser_80 hl (k := 3) rfl (by rw [ez8]; rfl) (by decide) rfl (fun ls hl => ?_)
            refine lv_goto (tgt := 10) hx hb dX1_noteLesser_83 (by decide) ?_
            exact ih a2 z7 z8 u hw _ _ hP hD hS _ (lv_sub hl [2, 3, 1, 0] rfl)
          · have hw := brN.f hw c6
            refine lv_aload_n hx hb dX1_noteLesser_37 rfl (lv_at hl 0 rfl) ?_
            refine va_get (D := G) (ci := 1) (v := .ref (ad 14)) (C := RX1) (T := TX1) (N := 3) hx hb hts hiX1 hown hK hP 2 rfl rfl 1 (by decide) (hts (.fieldLink RX1 21 "TreapVersions$Way" "noted" "[I") (by decide +kernel)) (fun _ h9 => h9) rfl dX1_noteLesser_38 ?_
            refine lv_aload_n hx hb dX1_noteLesser_41 rfl (lv_at hl 0 rfl) ?_
            refine va_get (D := G) (ci := 1) (v := .int (u 11 0)) (C := RX1) (T := TX1) (N := 3) hx hb hts hiX1 hown hK hP 2 rfl rfl 2 (by decide) (hts (.fieldLink RX1 25 "TreapVersions$Way" "length" "I") (by decide +kernel)) (fun _ h9 => h9) rfl dX1_noteLesser_42 ?_
            refine lv_topi (fun z9 ez9 => ?_)
            have hw := nmI.go hw z9 ez9
            refine lv_iload_n hx hb dX1_noteLesser_45 rfl (lv_at hl 2 rfl) ?_
            refine va_iast hx hb hK hP hD hS 14 0 rfl rfl (wrA.hin hw) dX1_noteLesser_46 (fun H locs hP hD hS => ?_)
            obtain ⟨u10, eu10⟩ : ∃ z : CS, z = cset u 10 (upd (u 10) z9.toNatClampNeg a3) := ⟨_, rfl⟩
            have hP : va_P G vwCl (cw ad C V cI cZ (cset u 10 (upd (u 10) z9.toNatClampNeg a3))) H := hP
            have hD : va_D A (cw ad C V cI cZ (cset u 10 (upd (u 10) z9.toNatClampNeg a3))) := hD
            rw [← eu10] at hP hD
            have hw := wrA.go hw u10 eu10
            refine lv_aload_n hx hb dX1_noteLesser_47 rfl (lv_at hl 0 rfl) ?_
            refine lv_dup hx hb dX1_noteLesser_48 rfl ?_
            refine va_get (D := G) (ci := 1) (v := .int (u10 11 0)) (C := RX1) (T := TX1) (N := 3) hx hb hts hiX1 hown hK hP 2 rfl rfl 2 (by decide) (hts (.fieldLink RX1 25 "TreapVersions$Way" "length" "I") (by decide +kernel)) (fun _ h9 => h9) rfl dX1_noteLesser_49 ?_
            refine lv_topi (fun z11 ez11 => ?_)
            have hw := nmI.go hw z11 ez11
            refine lv_iconst (v := 1) hx hb dX1_noteLesser_52 (by decide) ?_
            refine lv_iadd hx hb dX1_noteLesser_53 ?_
            refine lv_topi (fun z12 ez12 => ?_)
            have hw := nmI.go hw z12 ez12
            refine va_put (D := G) (ci := 1) (v := .int z12) (ty := .int) (C := RX1) (T := TX1) (N := 3) hx hb hts hiX1 tyX1 tyX1_ok nmX1 hown hK hP hD hS 2 rfl rfl 2 (by decide) (hts (.fieldLink RX1 25 "TreapVersions$Way" "length" "I") (by decide +kernel)) (fun _ h9 => h9) rfl (by decide +kernel) rfl rfl (Nat.le_of_ble_eq_true rfl) dX1_noteLesser_54 (fun H locs hP hD hS => ?_)
            obtain ⟨u13, eu13⟩ : ∃ z : CS, z = cset u10 11 (fun _ => z12) := ⟨_, rfl⟩
            have hP : va_P G vwCl (cw ad C V cI cZ (cset u10 11 (fun _ => z12))) H := hP
            have hD : va_D A (cw ad C V cI cZ (cset u10 11 (fun _ => z12))) := hD
            rw [← eu13] at hP hD
            have hw := stF.go hw u13 eu13
            refine lv_aload_n hx hb dX1_noteLesser_57 rfl (lv_at hl 0 rfl) ?_
            refine va_get (D := G) (ci := 1) (v := .ref (ad 1)) (C := RX1) (T := TX1) (N := 3) hx hb hts hiX1 hown hK hP 2 rfl rfl 0 (by decide) (hts (.fieldLink RX1 9 "TreapVersions$Way" "store" "LTreapVersions$Store;") (by decide +kernel)) (fun _ h9 => h9) rfl dX1_noteLesser_58 ?_
            refine va_get (D := G) (ci := 0) (v := .ref (ad 9)) (C := RX0) (T := TX0) (N := 11) hx hb hts hiX0 hown hK hP 1 rfl rfl 5 (by decide) (hts (.fieldLink RX1 31 "TreapVersions$Store" "right" "[I") (by decide +kernel)) (fun _ h9 => h9) rfl dX1_noteLesser_61 ?_
            refine lv_iload_n hx hb dX1_noteLesser_64 rfl (lv_at hl 2 rfl) ?_
            refine va_iald hx hb hK hP 9 0 rfl rfl (rdA.hin hw) dX1_noteLesser_65 ?_
            refine lv_topi (fun z14 ez14 => ?_)
            have hw := rdA.go hw z14 ez14
            refine lv_istore_n (lv' := [(3, .int z14), (0, .ref (ad 2)), (2, .int a2), (4, .int a4)]) hx hb dX1_noteLesser_66 rfl hl (by decide) rfl (fun ls hl => ?_)
            refine lv_goto (tgt := 80) hx hb dX1_noteLesser_67 (by decide) ?_
            obtain ⟨z15, ez15⟩ : ∃ y : Int32, y = a4 + 1 := ⟨_, rfl⟩
            have hw := nmI.go hw z15 ez15
            refine lv_iinc (v := z15) (lv' := [(4, .int z15), (3, .int z14), (0, .ref (ad 2)), (2, .int a2)]) hx hb dX1_noteLesser_80 hl (k := 3) rfl (by rw [ez15]; rfl) (by decide) rfl (fun ls hl => ?_)
            refine lv_goto (tgt := 10) hx hb dX1_noteLesser_83 (by decide) ?_
            exact ih a2 z14 z15 u13 hw _ _ hP hD hS _ (lv_sub hl [2, 3, 1, 0] rfl)
  unfold wp_X1_noteLesser at hw
  refine lv_aload_n hx hb dX1_noteLesser_0 rfl (lv_at hl 0 rfl) ?_
  refine lv_iconst (v := 0) hx hb dX1_noteLesser_1 (by decide) ?_
  refine va_put (D := G) (ci := 1) (v := .int 0) (ty := .int) (C := RX1) (T := TX1) (N := 3) hx hb hts hiX1 tyX1 tyX1_ok nmX1 hown hK hP hD hS 2 rfl rfl 2 (by decide) (hts (.fieldLink RX1 25 "TreapVersions$Way" "length" "I") (by decide +kernel)) (fun _ h9 => h9) rfl (by decide +kernel) rfl rfl (Nat.le_of_ble_eq_true rfl) dX1_noteLesser_2 (fun H locs hP hD hS => ?_)
  obtain ⟨u1, eu1⟩ : ∃ z : CS, z = cset u 11 (fun _ => 0) := ⟨_, rfl⟩
  have hP : va_P G vwCl (cw ad C V cI cZ (cset u 11 (fun _ => 0))) H := hP
  have hD : va_D A (cw ad C V cI cZ (cset u 11 (fun _ => 0))) := hD
  rw [← eu1] at hP hD
  have hw := stF.go hw u1 eu1
  refine lv_iload_n hx hb dX1_noteLesser_5 rfl (lv_at hl 1 rfl) ?_
  refine lv_istore_n (lv' := [(3, .int p0), (0, .ref (ad 2)), (1, .int p0), (2, .int p1)]) hx hb dX1_noteLesser_6 rfl hl (by decide) rfl (fun ls hl => ?_)
  refine lv_iconst (v := 0) hx hb dX1_noteLesser_7 (by decide) ?_
  refine lv_istore (lv' := [(4, .int 0), (3, .int p0), (0, .ref (ad 2)), (1, .int p0), (2, .int p1)]) hx hb dX1_noteLesser_8 hl (by decide) rfl (fun ls hl => ?_)
  obtain ⟨n9, hw⟩ := hw
  exact hlp10 n9 p1 p0 0 u1 hw _ _ hP hD hS _ (lv_sub hl [2, 4, 1, 0] rfl)
set_option maxHeartbeats 4000000 in
set_option maxRecDepth 100000 in
theorem c_X1_noteJoint (l : Launch) (G : va_G) (ad : Nat → Nat) (C V : Nat) (cI cZ : ClassId) (p0 : Int32) (p1 : Int32) (u : CS) (post : Int32 → CS → Prop) (hw : wp_X1_noteJoint C V p0 p1 u post) : CtI l yX1_noteJoint wsX1_noteJoint ({ frames := 1, cells := 0, slots := 0, locals := 23 }) G (ty2 cI cZ) (cw ad C V cI cZ) [.ref (ad 2), .int p0, .int p1] u post := by
  refine CtI.of (cc := cX1_noteJoint) (maxL := 5) (rt := .int) (by decide) rfl (Nat.le_of_ble_eq_true rfl) ?_
  intro p e s m below meth c A Q hx hb hml hts hown hK hA hret ls hl hP hD hS
  have hiX0 : ∀ w ∈ u_ws RX0 TX0 11, w ∈ wsX1_noteJoint := by decide +kernel
  have hiX1 : ∀ w ∈ u_ws RX1 TX1 3, w ∈ wsX1_noteJoint := by decide +kernel
  have hown : s.vm.findClass RX1 = some m.cls := hown
  have hl : lv_has ls 5 [(0, .ref (ad 2)), (1, .int p0), (2, .int p1)] := hl
  have hlp5 : ∀ (n : Nat) (a3 : Int32) (a4 : Int32) (u : CS), lp_X1_noteJoint_5 C V post n a3 a4 u → ∀ (H : Heap) (locs : List Loc), va_P G vwCl (cw ad C V cI cZ u) H → va_D A (cw ad C V cI cZ u) → va_S A s.heap H locs → ∀ ls : Array Slot, lv_has ls 5 [(0, .ref (ad 2)), (3, .int a3), (4, .int a4)] → W p l e ({ frames := 1, cells := 0, slots := 0, locals := 23 }) s m ([.ref (ad 2), .int p0, .int p1] : List Value).toArray below meth c H locs 0 0 Q (F0 m 5 ls []) := by
    clear hw hl hP hD hS
    intro n
    induction n with
    | zero => intro a3 a4 u hw; exact False.elim hw
    | succ n ih =>
      intro a3 a4 u hw H locs hP hD hS ls hl
      unfold lp_X1_noteJoint_5 at hw
      refine lv_aload_n hx hb dX1_noteJoint_5 rfl (lv_at hl 0 rfl) ?_
      refine va_get (D := G) (ci := 1) (v := .int (u 11 0)) (C := RX1) (T := TX1) (N := 3) hx hb hts hiX1 hown hK hP 2 rfl rfl 2 (by decide) (hts (.fieldLink RX1 25 "TreapVersions$Way" "length" "I") (by decide +kernel)) (fun _ h9 => h9) rfl dX1_noteJoint_6 ?_
      refine lv_topi (fun z1 ez1 => ?_)
      have hw := nmI.go hw z1 ez1
      refine lv_aload_n hx hb dX1_noteJoint_9 rfl (lv_at hl 0 rfl) ?_
      refine va_get (D := G) (ci := 1) (v := .ref (ad 14)) (C := RX1) (T := TX1) (N := 3) hx hb hts hiX1 hown hK hP 2 rfl rfl 1 (by decide) (hts (.fieldLink RX1 21 "TreapVersions$Way" "noted" "[I") (by decide +kernel)) (fun _ h9 => h9) rfl dX1_noteJoint_10 ?_
      refine va_alen hx hb hK hP 14 0 rfl rfl (v := nI C) rfl dX1_noteJoint_13 ?_
      refine lv_topi (fun z2 ez2 => ?_)
      have hw := nmI.go hw z2 ez2
      refine lv_icmp_ge (tgt := 116) hx hb dX1_noteJoint_14 (by decide) (fun c3 => ?_) (fun c3 => ?_)
      · have hw := brN.t hw c3
        refine lv_iload_n hx hb dX1_noteJoint_116 rfl (lv_at hl 1 rfl) ?_
        refine lv_if_ne (tgt := 125) hx hb dX1_noteJoint_117 (by decide) (fun c4 => ?_) (fun c4 => ?_)
        · have hw := brN.f hw c4
          refine lv_iload_n hx hb dX1_noteJoint_125 rfl (lv_at hl 1 rfl) ?_
          exact hret a3 u 126 _ _ _ dX1_noteJoint_126 rfl hw hP hD hS
        · have hw := brN.t hw c4
          refine lv_iload hx hb dX1_noteJoint_120 (lv_at hl 2 rfl) ?_
          refine lv_goto (tgt := 126) hx hb dX1_noteJoint_122 (by decide) ?_
          exact hret a4 u 126 _ _ _ dX1_noteJoint_126 rfl hw hP hD hS
      · have hw := brN.f hw c3
        refine lv_iload_n hx hb dX1_noteJoint_17 rfl (lv_at hl 1 rfl) ?_
        refine lv_if_eq (tgt := 116) hx hb dX1_noteJoint_18 (by decide) (fun c5 => ?_) (fun c5 => ?_)
        · have hw := brN.t hw c5
          refine lv_iload_n hx hb dX1_noteJoint_116 rfl (lv_at hl 1 rfl) ?_
          refine lv_if_ne (tgt := 125) hx hb dX1_noteJoint_117 (by decide) (fun c6 => ?_) (fun c6 => ?_)
          · have hw := brN.f hw c6
            refine lv_iload_n hx hb dX1_noteJoint_125 rfl (lv_at hl 1 rfl) ?_
            exact hret a3 u 126 _ _ _ dX1_noteJoint_126 rfl hw hP hD hS
          · have hw := brN.t hw c6
            refine lv_iload hx hb dX1_noteJoint_120 (lv_at hl 2 rfl) ?_
            refine lv_goto (tgt := 126) hx hb dX1_noteJoint_122 (by decide) ?_
            exact hret a4 u 126 _ _ _ dX1_noteJoint_126 rfl hw hP hD hS
        · have hw := brN.f hw c5
          refine lv_iload hx hb dX1_noteJoint_21 (lv_at hl 2 rfl) ?_
          refine lv_if_eq (tgt := 116) hx hb dX1_noteJoint_23 (by decide) (fun c7 => ?_) (fun c7 => ?_)
          · have hw := brN.t hw c7
            refine lv_iload_n hx hb dX1_noteJoint_116 rfl (lv_at hl 1 rfl) ?_
            refine lv_if_ne (tgt := 125) hx hb dX1_noteJoint_117 (by decide) (fun c8 => ?_) (fun c8 => ?_)
            · have hw := brN.f hw c8
              refine lv_iload_n hx hb dX1_noteJoint_125 rfl (lv_at hl 1 rfl) ?_
              exact hret a3 u 126 _ _ _ dX1_noteJoint_126 rfl hw hP hD hS
            · have hw := brN.t hw c8
              refine lv_iload hx hb dX1_noteJoint_120 (lv_at hl 2 rfl) ?_
              refine lv_goto (tgt := 126) hx hb dX1_noteJoint_122 (by decide) ?_
              exact hret a4 u 126 _ _ _ dX1_noteJoint_126 rfl hw hP hD hS
          · have hw := brN.f hw c7
            refine lv_aload_n hx hb dX1_noteJoint_26 rfl (lv_at hl 0 rfl) ?_
            refine va_get (D := G) (ci := 1) (v := .ref (ad 1)) (C := RX1) (T := TX1) (N := 3) hx hb hts hiX1 hown hK hP 2 rfl rfl 0 (by decide) (hts (.fieldLink RX1 9 "TreapVersions$Way" "store" "LTreapVersions$Store;") (by decide +kernel)) (fun _ h9 => h9) rfl dX1_noteJoint_27 ?_
            refine lv_iload_n hx hb dX1_noteJoint_30 rfl (lv_at hl 1 rfl) ?_
            refine lv_aload_n hx hb dX1_noteJoint_31 rfl (lv_at hl 0 rfl) ?_
            refine va_get (D := G) (ci := 1) (v := .ref (ad 1)) (C := RX1) (T := TX1) (N := 3) hx hb hts hiX1 hown hK hP 2 rfl rfl 0 (by decide) (hts (.fieldLink RX1 9 "TreapVersions$Way" "store" "LTreapVersions$Store;") (by decide +kernel)) (fun _ h9 => h9) rfl dX1_noteJoint_32 ?_
            refine va_get (D := G) (ci := 0) (v := .ref (ad 7)) (C := RX0) (T := TX0) (N := 11) hx hb hts hiX0 hown hK hP 1 rfl rfl 3 (by decide) (hts (.fieldLink RX1 44 "TreapVersions$Store" "weight" "[I") (by decide +kernel)) (fun _ h9 => h9) rfl dX1_noteJoint_35 ?_
            refine lv_iload hx hb dX1_noteJoint_38 (lv_at hl 2 rfl) ?_
            refine va_iald hx hb hK hP 7 0 rfl rfl (rdA.hin hw) dX1_noteJoint_40 ?_
            refine lv_topi (fun z9 ez9 => ?_)
            have hw := rdA.go hw z9 ez9
            refine lv_aload_n hx hb dX1_noteJoint_41 rfl (lv_at hl 0 rfl) ?_
            refine va_get (D := G) (ci := 1) (v := .ref (ad 1)) (C := RX1) (T := TX1) (N := 3) hx hb hts hiX1 hown hK hP 2 rfl rfl 0 (by decide) (hts (.fieldLink RX1 9 "TreapVersions$Way" "store" "LTreapVersions$Store;") (by decide +kernel)) (fun _ h9 => h9) rfl dX1_noteJoint_42 ?_
            refine va_get (D := G) (ci := 0) (v := .ref (ad 5)) (C := RX0) (T := TX0) (N := 11) hx hb hts hiX0 hown hK hP 1 rfl rfl 1 (by decide) (hts (.fieldLink RX1 28 "TreapVersions$Store" "key" "[I") (by decide +kernel)) (fun _ h9 => h9) rfl dX1_noteJoint_45 ?_
            refine lv_iload hx hb dX1_noteJoint_48 (lv_at hl 2 rfl) ?_
            refine va_iald hx hb hK hP 5 0 rfl rfl (rdA.hin hw) dX1_noteJoint_50 ?_
            refine lv_topi (fun z10 ez10 => ?_)
            have hw := rdA.go hw z10 ez10
            refine CtI.call (As := [.int a3, .int z9, .int z10]) (rest := []) (c_X0_goesAbove l G ad C V cI cZ a3 z9 z10 u _ hw) ⟨hx, hb, hml, hown, hts⟩ (cwV 3 hts gX1_noteJoint_X0_goesAbove rfl rfl rfl (by decide +kernel) ⟨Nat.le_of_ble_eq_true rfl, Nat.le_of_ble_eq_true rfl⟩) (va_recv hK hP (ci := 0) (q0 := 1) rfl rfl) hK hP hD hS hA rfl hl.1 rfl (Nat.le_of_ble_eq_true rfl) dX1_noteJoint_51 ⟨Nat.zero_le _, Nat.zero_le _⟩ (fun r12 u11 H locs hw hP hD hS => ?_)
            obtain ⟨hz, hw⟩ := hw
            refine lv_if_eq (tgt := 80) hx hb dX1_noteJoint_54 (by decide) (fun c13 => ?_) (fun c13 => ?_)
            · have hw := brN.t hw c13
              refine lv_aload_n hx hb dX1_noteJoint_80 rfl (lv_at hl 0 rfl) ?_
              refine va_get (D := G) (ci := 1) (v := .ref (ad 14)) (C := RX1) (T := TX1) (N := 3) hx hb hts hiX1 hown hK hP 2 rfl rfl 1 (by decide) (hts (.fieldLink RX1 21 "TreapVersions$Way" "noted" "[I") (by decide +kernel)) (fun _ h9 => h9) rfl dX1_noteJoint_81 ?_
              refine lv_aload_n hx hb dX1_noteJoint_84 rfl (lv_at hl 0 rfl) ?_
              refine va_get (D := G) (ci := 1) (v := .int (u11 11 0)) (C := RX1) (T := TX1) (N := 3) hx hb hts hiX1 hown hK hP 2 rfl rfl 2 (by decide) (hts (.fieldLink RX1 25 "TreapVersions$Way" "length" "I") (by decide +kernel)) (fun _ h9 => h9) rfl dX1_noteJoint_85 ?_
              refine lv_topi (fun z14 ez14 => ?_)
              have hw := nmI.go hw z14 ez14
              refine lv_iload hx hb dX1_noteJoint_88 (lv_at hl 2 rfl) ?_
              refine va_iast hx hb hK hP hD hS 14 0 rfl rfl (wrA.hin hw) dX1_noteJoint_90 (fun H locs hP hD hS => ?_)
              obtain ⟨u15, eu15⟩ : ∃ z : CS, z = cset u11 10 (upd (u11 10) z14.toNatClampNeg a4) := ⟨_, rfl⟩
              have hP : va_P G vwCl (cw ad C V cI cZ (cset u11 10 (upd (u11 10) z14.toNatClampNeg a4))) H := hP
              have hD : va_D A (cw ad C V cI cZ (cset u11 10 (upd (u11 10) z14.toNatClampNeg a4))) := hD
              rw [← eu15] at hP hD
              have hw := wrA.go hw u15 eu15
              refine lv_aload_n hx hb dX1_noteJoint_91 rfl (lv_at hl 0 rfl) ?_
              refine va_get (D := G) (ci := 1) (v := .ref (ad 1)) (C := RX1) (T := TX1) (N := 3) hx hb hts hiX1 hown hK hP 2 rfl rfl 0 (by decide) (hts (.fieldLink RX1 9 "TreapVersions$Way" "store" "LTreapVersions$Store;") (by decide +kernel)) (fun _ h9 => h9) rfl dX1_noteJoint_92 ?_
              refine va_get (D := G) (ci := 0) (v := .ref (ad 8)) (C := RX0) (T := TX0) (N := 11) hx hb hts hiX0 hown hK hP 1 rfl rfl 4 (by decide) (hts (.fieldLink RX1 34 "TreapVersions$Store" "left" "[I") (by decide +kernel)) (fun _ h9 => h9) rfl dX1_noteJoint_95 ?_
              refine lv_iload hx hb dX1_noteJoint_98 (lv_at hl 2 rfl) ?_
              refine va_iald hx hb hK hP 8 0 rfl rfl (rdA.hin hw) dX1_noteJoint_100 ?_
              refine lv_topi (fun z16 ez16 => ?_)
              have hw := rdA.go hw z16 ez16
              refine lv_istore (lv' := [(4, .int z16), (0, .ref (ad 2)), (3, .int a3)]) hx hb dX1_noteJoint_101 hl (by decide) rfl (fun ls hl => ?_)
              refine lv_aload_n hx hb dX1_noteJoint_103 rfl (lv_at hl 1 rfl) ?_
              refine lv_dup hx hb dX1_noteJoint_104 rfl ?_
              refine va_get (D := G) (ci := 1) (v := .int (u15 11 0)) (C := RX1) (T := TX1) (N := 3) hx hb hts hiX1 hown hK hP 2 rfl rfl 2 (by decide) (hts (.fieldLink RX1 25 "TreapVersions$Way" "length" "I") (by decide +kernel)) (fun _ h9 => h9) rfl dX1_noteJoint_105 ?_
              refine lv_topi (fun z17 ez17 => ?_)
              have hw := nmI.go hw z17 ez17
              refine lv_iconst (v := 1) hx hb dX1_noteJoint_108 (by decide) ?_
              refine lv_iadd hx hb dX1_noteJoint_109 ?_
              refine lv_topi (fun z18 ez18 => ?_)
              have hw := nmI.go hw z18 ez18
              refine va_put (D := G) (ci := 1) (v := .int z18) (ty := .int) (C := RX1) (T := TX1) (N := 3) hx hb hts hiX1 tyX1 tyX1_ok nmX1 hown hK hP hD hS 2 rfl rfl 2 (by decide) (hts (.fieldLink RX1 25 "TreapVersions$Way" "length" "I") (by decide +kernel)) (fun _ h9 => h9) rfl (by decide +kernel) rfl rfl (Nat.le_of_ble_eq_true rfl) dX1_noteJoint_110 (fun H locs hP hD hS => ?_)
              obtain ⟨u19, eu19⟩ : ∃ z : CS, z = cset u15 11 (fun _ => z18) := ⟨_, rfl⟩
              have hP : va_P G vwCl (cw ad C V cI cZ (cset u15 11 (fun _ => z18))) H := hP
              have hD : va_D A (cw ad C V cI cZ (cset u15 11 (fun _ => z18))) := hD
              rw [← eu19] at hP hD
              have hw := stF.go hw u19 eu19
              refine lv_goto (tgt := 5) hx hb dX1_noteJoint_113 (by decide) ?_
              exact ih a3 z16 u19 hw _ _ hP hD hS _ (lv_sub hl [1, 2, 0] rfl)
            · have hw := brN.f hw c13
              refine lv_aload_n hx hb dX1_noteJoint_57 rfl (lv_at hl 0 rfl) ?_
              refine va_get (D := G) (ci := 1) (v := .ref (ad 14)) (C := RX1) (T := TX1) (N := 3) hx hb hts hiX1 hown hK hP 2 rfl rfl 1 (by decide) (hts (.fieldLink RX1 21 "TreapVersions$Way" "noted" "[I") (by decide +kernel)) (fun _ h9 => h9) rfl dX1_noteJoint_58 ?_
              refine lv_aload_n hx hb dX1_noteJoint_61 rfl (lv_at hl 0 rfl) ?_
              refine va_get (D := G) (ci := 1) (v := .int (u11 11 0)) (C := RX1) (T := TX1) (N := 3) hx hb hts hiX1 hown hK hP 2 rfl rfl 2 (by decide) (hts (.fieldLink RX1 25 "TreapVersions$Way" "length" "I") (by decide +kernel)) (fun _ h9 => h9) rfl dX1_noteJoint_62 ?_
              refine lv_topi (fun z20 ez20 => ?_)
              have hw := nmI.go hw z20 ez20
              refine lv_iload_n hx hb dX1_noteJoint_65 rfl (lv_at hl 1 rfl) ?_
              refine va_iast hx hb hK hP hD hS 14 0 rfl rfl (wrA.hin hw) dX1_noteJoint_66 (fun H locs hP hD hS => ?_)
              obtain ⟨u21, eu21⟩ : ∃ z : CS, z = cset u11 10 (upd (u11 10) z20.toNatClampNeg a3) := ⟨_, rfl⟩
              have hP : va_P G vwCl (cw ad C V cI cZ (cset u11 10 (upd (u11 10) z20.toNatClampNeg a3))) H := hP
              have hD : va_D A (cw ad C V cI cZ (cset u11 10 (upd (u11 10) z20.toNatClampNeg a3))) := hD
              rw [← eu21] at hP hD
              have hw := wrA.go hw u21 eu21
              refine lv_aload_n hx hb dX1_noteJoint_67 rfl (lv_at hl 0 rfl) ?_
              refine va_get (D := G) (ci := 1) (v := .ref (ad 1)) (C := RX1) (T := TX1) (N := 3) hx hb hts hiX1 hown hK hP 2 rfl rfl 0 (by decide) (hts (.fieldLink RX1 9 "TreapVersions$Way" "store" "LTreapVersions$Store;") (by decide +kernel)) (fun _ h9 => h9) rfl dX1_noteJoint_68 ?_
              refine va_get (D := G) (ci := 0) (v := .ref (ad 9)) (C := RX0) (T := TX0) (N := 11) hx hb hts hiX0 hown hK hP 1 rfl rfl 5 (by decide) (hts (.fieldLink RX1 31 "TreapVersions$Store" "right" "[I") (by decide +kernel)) (fun _ h9 => h9) rfl dX1_noteJoint_71 ?_
              refine lv_iload_n hx hb dX1_noteJoint_74 rfl (lv_at hl 1 rfl) ?_
              refine va_iald hx hb hK hP 9 0 rfl rfl (rdA.hin hw) dX1_noteJoint_75 ?_
              refine lv_topi (fun z22 ez22 => ?_)
              have hw := rdA.go hw z22 ez22
              refine lv_istore_n (lv' := [(3, .int z22), (0, .ref (ad 2)), (4, .int a4)]) hx hb dX1_noteJoint_76 rfl hl (by decide) rfl (fun ls hl => ?_)
              refine lv_goto (tgt := 103) hx hb dX1_noteJoint_77 (by decide) ?_
              refine lv_aload_n hx hb dX1_noteJoint_103 rfl (lv_at hl 1 rfl) ?_
              refine lv_dup hx hb dX1_noteJoint_104 rfl ?_
              refine va_get (D := G) (ci := 1) (v := .int (u21 11 0)) (C := RX1) (T := TX1) (N := 3) hx hb hts hiX1 hown hK hP 2 rfl rfl 2 (by decide) (hts (.fieldLink RX1 25 "TreapVersions$Way" "length" "I") (by decide +kernel)) (fun _ h9 => h9) rfl dX1_noteJoint_105 ?_
              refine lv_topi (fun z23 ez23 => ?_)
              have hw := nmI.go hw z23 ez23
              refine lv_iconst (v := 1) hx hb dX1_noteJoint_108 (by decide) ?_
              refine lv_iadd hx hb dX1_noteJoint_109 ?_
              refine lv_topi (fun z24 ez24 => ?_)
              have hw := nmI.go hw z24 ez24
              refine va_put (D := G) (ci := 1) (v := .int z24) (ty := .int) (C := RX1) (T := TX1) (N := 3) hx hb hts hiX1 tyX1 tyX1_ok nmX1 hown hK hP hD hS 2 rfl rfl 2 (by decide) (hts (.fieldLink RX1 25 "TreapVersions$Way" "length" "I") (by decide +kernel)) (fun _ h9 => h9) rfl (by decide +kernel) rfl rfl (Nat.le_of_ble_eq_true rfl) dX1_noteJoint_110 (fun H locs hP hD hS => ?_)
              obtain ⟨u25, eu25⟩ : ∃ z : CS, z = cset u21 11 (fun _ => z24) := ⟨_, rfl⟩
              have hP : va_P G vwCl (cw ad C V cI cZ (cset u21 11 (fun _ => z24))) H := hP
              have hD : va_D A (cw ad C V cI cZ (cset u21 11 (fun _ => z24))) := hD
              rw [← eu25] at hP hD
              have hw := stF.go hw u25 eu25
              refine lv_goto (tgt := 5) hx hb dX1_noteJoint_113 (by decide) ?_
              exact ih z22 a4 u25 hw _ _ hP hD hS _ (lv_sub hl [1, 0, 2] rfl)
  unfold wp_X1_noteJoint at hw
  refine lv_iload_n hx hb dX1_noteJoint_0 rfl (lv_at hl 1 rfl) ?_
  refine lv_istore_n (lv' := [(3, .int p0), (0, .ref (ad 2)), (1, .int p0), (2, .int p1)]) hx hb dX1_noteJoint_1 rfl hl (by decide) rfl (fun ls hl => ?_)
  refine lv_iload_n hx hb dX1_noteJoint_2 rfl (lv_at hl 3 rfl) ?_
  refine lv_istore (lv' := [(4, .int p1), (3, .int p0), (0, .ref (ad 2)), (1, .int p0), (2, .int p1)]) hx hb dX1_noteJoint_3 hl (by decide) rfl (fun ls hl => ?_)
  obtain ⟨n9, hw⟩ := hw
  exact hlp5 n9 p0 p1 u hw _ _ hP hD hS _ (lv_sub hl [2, 1, 0] rfl)
set_option maxHeartbeats 4000000 in
set_option maxRecDepth 100000 in
theorem c_X1_noteRemoval (l : Launch) (G : va_G) (ad : Nat → Nat) (C V : Nat) (cI cZ : ClassId) (p0 : Int32) (p1 : Int32) (u : CS) (post : Int32 → CS → Prop) (hw : wp_X1_noteRemoval C V p0 p1 u post) : CtI l yX1_noteRemoval wsX1_noteRemoval ({ frames := 2, cells := 0, slots := 0, locals := 47 }) G (ty2 cI cZ) (cw ad C V cI cZ) [.ref (ad 2), .int p0, .int p1] u post := by
  refine CtI.of (cc := cX1_noteRemoval) (maxL := 4) (rt := .int) (by decide) rfl (Nat.le_of_ble_eq_true rfl) ?_
  intro p e s m below meth c A Q hx hb hml hts hown hK hA hret ls hl hP hD hS
  have hiX0 : ∀ w ∈ u_ws RX0 TX0 11, w ∈ wsX1_noteRemoval := by decide +kernel
  have hiX1 : ∀ w ∈ u_ws RX1 TX1 3, w ∈ wsX1_noteRemoval := by decide +kernel
  have hown : s.vm.findClass RX1 = some m.cls := hown
  have hl : lv_has ls 4 [(0, .ref (ad 2)), (1, .int p0), (2, .int p1)] := hl
  unfold wp_X1_noteRemoval at hw
  refine lv_aload_n hx hb dX1_noteRemoval_0 rfl (lv_at hl 0 rfl) ?_
  refine lv_iload_n hx hb dX1_noteRemoval_1 rfl (lv_at hl 1 rfl) ?_
  refine lv_iload_n hx hb dX1_noteRemoval_2 rfl (lv_at hl 2 rfl) ?_
  refine CtI.call (As := [.int p0, .int p1]) (rest := []) (c_X1_noteTo l G ad C V cI cZ p0 p1 u _ hw) ⟨hx, hb, hml, hown, hts⟩ (cwV 2 hts gX1_noteRemoval_X1_noteTo rfl rfl rfl (by decide +kernel) ⟨Nat.le_of_ble_eq_true rfl, Nat.le_of_ble_eq_true rfl⟩) (va_recv hK hP (ci := 1) (q0 := 2) rfl rfl) hK hP hD hS hA rfl hl.1 rfl (Nat.le_of_ble_eq_true rfl) dX1_noteRemoval_3 ⟨Nat.zero_le _, Nat.zero_le _⟩ (fun r2 u1 H locs hw hP hD hS => ?_)
  refine lv_istore_n (lv' := [(3, .int r2), (0, .ref (ad 2)), (1, .int p0), (2, .int p1)]) hx hb dX1_noteRemoval_6 rfl hl (by decide) rfl (fun ls hl => ?_)
  refine lv_iload_n hx hb dX1_noteRemoval_7 rfl (lv_at hl 0 rfl) ?_
  refine lv_if_ne (tgt := 18) hx hb dX1_noteRemoval_8 (by decide) (fun c3 => ?_) (fun c3 => ?_)
  · have hw := brN.f hw c3
    refine lv_aload_n hx hb dX1_noteRemoval_18 rfl (lv_at hl 1 rfl) ?_
    refine lv_aload_n hx hb dX1_noteRemoval_19 rfl (lv_at hl 1 rfl) ?_
    refine va_get (D := G) (ci := 1) (v := .ref (ad 1)) (C := RX1) (T := TX1) (N := 3) hx hb hts hiX1 hown hK hP 2 rfl rfl 0 (by decide) (hts (.fieldLink RX1 9 "TreapVersions$Way" "store" "LTreapVersions$Store;") (by decide +kernel)) (fun _ h9 => h9) rfl dX1_noteRemoval_20 ?_
    refine va_get (D := G) (ci := 0) (v := .ref (ad 8)) (C := RX0) (T := TX0) (N := 11) hx hb hts hiX0 hown hK hP 1 rfl rfl 4 (by decide) (hts (.fieldLink RX1 34 "TreapVersions$Store" "left" "[I") (by decide +kernel)) (fun _ h9 => h9) rfl dX1_noteRemoval_23 ?_
    refine lv_iload_n hx hb dX1_noteRemoval_26 rfl (lv_at hl 0 rfl) ?_
    refine va_iald hx hb hK hP 8 0 rfl rfl (rdA.hin hw) dX1_noteRemoval_27 ?_
    refine lv_topi (fun z4 ez4 => ?_)
    have hw := rdA.go hw z4 ez4
    refine lv_aload_n hx hb dX1_noteRemoval_28 rfl (lv_at hl 1 rfl) ?_
    refine va_get (D := G) (ci := 1) (v := .ref (ad 1)) (C := RX1) (T := TX1) (N := 3) hx hb hts hiX1 hown hK hP 2 rfl rfl 0 (by decide) (hts (.fieldLink RX1 9 "TreapVersions$Way" "store" "LTreapVersions$Store;") (by decide +kernel)) (fun _ h9 => h9) rfl dX1_noteRemoval_29 ?_
    refine va_get (D := G) (ci := 0) (v := .ref (ad 9)) (C := RX0) (T := TX0) (N := 11) hx hb hts hiX0 hown hK hP 1 rfl rfl 5 (by decide) (hts (.fieldLink RX1 31 "TreapVersions$Store" "right" "[I") (by decide +kernel)) (fun _ h9 => h9) rfl dX1_noteRemoval_32 ?_
    refine lv_iload_n hx hb dX1_noteRemoval_35 rfl (lv_at hl 0 rfl) ?_
    refine va_iald hx hb hK hP 9 0 rfl rfl (rdA.hin hw) dX1_noteRemoval_36 ?_
    refine lv_topi (fun z5 ez5 => ?_)
    have hw := rdA.go hw z5 ez5
    refine CtI.call (As := [.int z4, .int z5]) (rest := []) (c_X1_noteJoint l G ad C V cI cZ z4 z5 u1 _ hw) ⟨hx, hb, hml, hown, hts⟩ (cwV 2 hts gX1_noteRemoval_X1_noteJoint rfl rfl rfl (by decide +kernel) ⟨Nat.le_of_ble_eq_true rfl, Nat.le_of_ble_eq_true rfl⟩) (va_recv hK hP (ci := 1) (q0 := 2) rfl rfl) hK hP hD hS hA rfl hl.1 rfl (Nat.le_of_ble_eq_true rfl) dX1_noteRemoval_37 ⟨Nat.zero_le _, Nat.zero_le _⟩ (fun r7 u6 H locs hw hP hD hS => ?_)
    exact hret r7 u6 40 _ _ _ dX1_noteRemoval_40 rfl hw hP hD hS
  · have hw := brN.t hw c3
    refine lv_aload_n hx hb dX1_noteRemoval_11 rfl (lv_at hl 1 rfl) ?_
    refine lv_iconst (v := 0) hx hb dX1_noteRemoval_12 (by decide) ?_
    refine va_put (D := G) (ci := 1) (v := .int 0) (ty := .int) (C := RX1) (T := TX1) (N := 3) hx hb hts hiX1 tyX1 tyX1_ok nmX1 hown hK hP hD hS 2 rfl rfl 2 (by decide) (hts (.fieldLink RX1 25 "TreapVersions$Way" "length" "I") (by decide +kernel)) (fun _ h9 => h9) rfl (by decide +kernel) rfl rfl (Nat.le_of_ble_eq_true rfl) dX1_noteRemoval_13 (fun H locs hP hD hS => ?_)
    obtain ⟨u8, eu8⟩ : ∃ z : CS, z = cset u1 11 (fun _ => 0) := ⟨_, rfl⟩
    have hP : va_P G vwCl (cw ad C V cI cZ (cset u1 11 (fun _ => 0))) H := hP
    have hD : va_D A (cw ad C V cI cZ (cset u1 11 (fun _ => 0))) := hD
    rw [← eu8] at hP hD
    have hw := stF.go hw u8 eu8
    refine lv_iload_n hx hb dX1_noteRemoval_16 rfl (lv_at hl 2 rfl) ?_
    exact hret p0 u8 17 _ _ _ dX1_noteRemoval_17 rfl hw hP hD hS
set_option maxHeartbeats 4000000 in
set_option maxRecDepth 100000 in
theorem c_X1_placeNew (l : Launch) (G : va_G) (ad : Nat → Nat) (C V : Nat) (cI cZ : ClassId) (p0 : Int32) (p1 : Int32) (p2 : Int32) (u : CS) (post : Int32 → CS → Prop) (hw : wp_X1_placeNew C V p0 p1 p2 u post) : CtI l yX1_placeNew wsX1_placeNew ({ frames := 3, cells := 0, slots := 0, locals := 70 }) G (ty2 cI cZ) (cw ad C V cI cZ) [.ref (ad 2), .int p0, .int p1, .int p2] u post := by
  refine CtI.of (cc := cX1_placeNew) (maxL := 7) (rt := .int) (by decide) rfl (Nat.le_of_ble_eq_true rfl) ?_
  intro p e s m below meth c A Q hx hb hml hts hown hK hA hret ls hl hP hD hS
  have hiX0 : ∀ w ∈ u_ws RX0 TX0 11, w ∈ wsX1_placeNew := by decide +kernel
  have hiX1 : ∀ w ∈ u_ws RX1 TX1 3, w ∈ wsX1_placeNew := by decide +kernel
  have hown : s.vm.findClass RX1 = some m.cls := hown
  have hl : lv_has ls 7 [(0, .ref (ad 2)), (1, .int p0), (2, .int p1), (3, .int p2)] := hl
  have hlp6 : ∀ (n : Nat) (a1 : Int32) (a2 : Int32) (a3 : Int32) (a4 : Int32) (a5 : Int32) (u : CS), lp_X1_placeNew_6 C V post n a1 a2 a3 a4 a5 u → ∀ (H : Heap) (locs : List Loc), va_P G vwCl (cw ad C V cI cZ u) H → va_D A (cw ad C V cI cZ u) → va_S A s.heap H locs → ∀ ls : Array Slot, lv_has ls 7 [(0, .ref (ad 2)), (1, .int a1), (2, .int a2), (3, .int a3), (4, .int a4), (5, .int a5)] → W p l e ({ frames := 3, cells := 0, slots := 0, locals := 70 }) s m ([.ref (ad 2), .int p0, .int p1, .int p2] : List Value).toArray below meth c H locs 0 0 Q (F0 m 6 ls []) := by
    clear hw hl hP hD hS
    intro n
    induction n with
    | zero => intro a1 a2 a3 a4 a5 u hw; exact False.elim hw
    | succ n ih =>
      intro a1 a2 a3 a4 a5 u hw H locs hP hD hS ls hl
      unfold lp_X1_placeNew_6 at hw
      refine lv_aload_n hx hb dX1_placeNew_6 rfl (lv_at hl 0 rfl) ?_
      refine va_get (D := G) (ci := 1) (v := .int (u 11 0)) (C := RX1) (T := TX1) (N := 3) hx hb hts hiX1 hown hK hP 2 rfl rfl 2 (by decide) (hts (.fieldLink RX1 25 "TreapVersions$Way" "length" "I") (by decide +kernel)) (fun _ h9 => h9) rfl dX1_placeNew_7 ?_
      refine lv_topi (fun z1 ez1 => ?_)
      have hw := nmI.go hw z1 ez1
      refine lv_if_le (tgt := 123) hx hb dX1_placeNew_10 (by decide) (fun c2 => ?_) (fun c2 => ?_)
      · have hw := brN.t hw c2
        refine lv_aload_n hx hb dX1_placeNew_123 rfl (lv_at hl 0 rfl) ?_
        refine va_get (D := G) (ci := 1) (v := .ref (ad 1)) (C := RX1) (T := TX1) (N := 3) hx hb hts hiX1 hown hK hP 2 rfl rfl 0 (by decide) (hts (.fieldLink RX1 9 "TreapVersions$Way" "store" "LTreapVersions$Store;") (by decide +kernel)) (fun _ h9 => h9) rfl dX1_placeNew_124 ?_
        refine lv_iload_n hx hb dX1_placeNew_127 rfl (lv_at hl 1 rfl) ?_
        refine lv_iload_n hx hb dX1_placeNew_128 rfl (lv_at hl 2 rfl) ?_
        refine lv_iload_n hx hb dX1_placeNew_129 rfl (lv_at hl 3 rfl) ?_
        refine lv_iload hx hb dX1_placeNew_130 (lv_at hl 4 rfl) ?_
        refine lv_iload hx hb dX1_placeNew_132 (lv_at hl 5 rfl) ?_
        refine CtI.call (As := [.int a1, .int a2, .int a3, .int a4, .int a5]) (rest := []) (c_X0_fresh l G ad C V cI cZ a1 a2 a3 a4 a5 u _ hw) ⟨hx, hb, hml, hown, hts⟩ (cwV 5 hts gX1_placeNew_X0_fresh rfl rfl rfl (by decide +kernel) ⟨Nat.le_of_ble_eq_true rfl, Nat.le_of_ble_eq_true rfl⟩) (va_recv hK hP (ci := 0) (q0 := 1) rfl rfl) hK hP hD hS hA rfl hl.1 rfl (Nat.le_of_ble_eq_true rfl) dX1_placeNew_134 ⟨Nat.zero_le _, Nat.zero_le _⟩ (fun r4 u3 H locs hw hP hD hS => ?_)
        exact hret r4 u3 137 _ _ _ dX1_placeNew_137 rfl hw hP hD hS
      · have hw := brN.f hw c2
        refine lv_aload_n hx hb dX1_placeNew_13 rfl (lv_at hl 0 rfl) ?_
        refine va_get (D := G) (ci := 1) (v := .ref (ad 1)) (C := RX1) (T := TX1) (N := 3) hx hb hts hiX1 hown hK hP 2 rfl rfl 0 (by decide) (hts (.fieldLink RX1 9 "TreapVersions$Way" "store" "LTreapVersions$Store;") (by decide +kernel)) (fun _ h9 => h9) rfl dX1_placeNew_14 ?_
        refine lv_aload_n hx hb dX1_placeNew_17 rfl (lv_at hl 0 rfl) ?_
        refine va_get (D := G) (ci := 1) (v := .ref (ad 14)) (C := RX1) (T := TX1) (N := 3) hx hb hts hiX1 hown hK hP 2 rfl rfl 1 (by decide) (hts (.fieldLink RX1 21 "TreapVersions$Way" "noted" "[I") (by decide +kernel)) (fun _ h9 => h9) rfl dX1_placeNew_18 ?_
        refine lv_aload_n hx hb dX1_placeNew_21 rfl (lv_at hl 0 rfl) ?_
        refine va_get (D := G) (ci := 1) (v := .int (u 11 0)) (C := RX1) (T := TX1) (N := 3) hx hb hts hiX1 hown hK hP 2 rfl rfl 2 (by decide) (hts (.fieldLink RX1 25 "TreapVersions$Way" "length" "I") (by decide +kernel)) (fun _ h9 => h9) rfl dX1_placeNew_22 ?_
        refine lv_topi (fun z5 ez5 => ?_)
        have hw := nmI.go hw z5 ez5
        refine lv_iconst (v := 1) hx hb dX1_placeNew_25 (by decide) ?_
        refine lv_isub hx hb dX1_placeNew_26 ?_
        refine lv_topi (fun z6 ez6 => ?_)
        have hw := nmI.go hw z6 ez6
        refine va_iald hx hb hK hP 14 0 rfl rfl (rdA.hin hw) dX1_placeNew_27 ?_
        refine lv_topi (fun z7 ez7 => ?_)
        have hw := rdA.go hw z7 ez7
        refine lv_iload_n hx hb dX1_placeNew_28 rfl (lv_at hl 3 rfl) ?_
        refine lv_iload_n hx hb dX1_placeNew_29 rfl (lv_at hl 1 rfl) ?_
        refine CtI.call (As := [.int z7, .int a3, .int a1]) (rest := []) (c_X0_goesAbove l G ad C V cI cZ z7 a3 a1 u _ hw) ⟨hx, hb, hml, hown, hts⟩ (cwV 3 hts gX1_placeNew_X0_goesAbove rfl rfl rfl (by decide +kernel) ⟨Nat.le_of_ble_eq_true rfl, Nat.le_of_ble_eq_true rfl⟩) (va_recv hK hP (ci := 0) (q0 := 1) rfl rfl) hK hP hD hS hA rfl hl.1 rfl (Nat.le_of_ble_eq_true rfl) dX1_placeNew_30 ⟨Nat.zero_le _, Nat.zero_le _⟩ (fun r9 u8 H locs hw hP hD hS => ?_)
        obtain ⟨hz, hw⟩ := hw
        refine lv_if_ne (tgt := 123) hx hb dX1_placeNew_33 (by decide) (fun c10 => ?_) (fun c10 => ?_)
        · have hw := brN.f hw c10
          refine lv_aload_n hx hb dX1_placeNew_123 rfl (lv_at hl 0 rfl) ?_
          refine va_get (D := G) (ci := 1) (v := .ref (ad 1)) (C := RX1) (T := TX1) (N := 3) hx hb hts hiX1 hown hK hP 2 rfl rfl 0 (by decide) (hts (.fieldLink RX1 9 "TreapVersions$Way" "store" "LTreapVersions$Store;") (by decide +kernel)) (fun _ h9 => h9) rfl dX1_placeNew_124 ?_
          refine lv_iload_n hx hb dX1_placeNew_127 rfl (lv_at hl 1 rfl) ?_
          refine lv_iload_n hx hb dX1_placeNew_128 rfl (lv_at hl 2 rfl) ?_
          refine lv_iload_n hx hb dX1_placeNew_129 rfl (lv_at hl 3 rfl) ?_
          refine lv_iload hx hb dX1_placeNew_130 (lv_at hl 4 rfl) ?_
          refine lv_iload hx hb dX1_placeNew_132 (lv_at hl 5 rfl) ?_
          refine CtI.call (As := [.int a1, .int a2, .int a3, .int a4, .int a5]) (rest := []) (c_X0_fresh l G ad C V cI cZ a1 a2 a3 a4 a5 u8 _ hw) ⟨hx, hb, hml, hown, hts⟩ (cwV 5 hts gX1_placeNew_X0_fresh rfl rfl rfl (by decide +kernel) ⟨Nat.le_of_ble_eq_true rfl, Nat.le_of_ble_eq_true rfl⟩) (va_recv hK hP (ci := 0) (q0 := 1) rfl rfl) hK hP hD hS hA rfl hl.1 rfl (Nat.le_of_ble_eq_true rfl) dX1_placeNew_134 ⟨Nat.zero_le _, Nat.zero_le _⟩ (fun r12 u11 H locs hw hP hD hS => ?_)
          exact hret r12 u11 137 _ _ _ dX1_placeNew_137 rfl hw hP hD hS
        · have hw := brN.t hw c10
          refine lv_aload_n hx hb dX1_placeNew_36 rfl (lv_at hl 0 rfl) ?_
          refine lv_dup hx hb dX1_placeNew_37 rfl ?_
          refine va_get (D := G) (ci := 1) (v := .int (u8 11 0)) (C := RX1) (T := TX1) (N := 3) hx hb hts hiX1 hown hK hP 2 rfl rfl 2 (by decide) (hts (.fieldLink RX1 25 "TreapVersions$Way" "length" "I") (by decide +kernel)) (fun _ h9 => h9) rfl dX1_placeNew_38 ?_
          refine lv_topi (fun z13 ez13 => ?_)
          have hw := nmI.go hw z13 ez13
          refine lv_iconst (v := 1) hx hb dX1_placeNew_41 (by decide) ?_
          refine lv_isub hx hb dX1_placeNew_42 ?_
          refine lv_topi (fun z14 ez14 => ?_)
          have hw := nmI.go hw z14 ez14
          refine va_put (D := G) (ci := 1) (v := .int z14) (ty := .int) (C := RX1) (T := TX1) (N := 3) hx hb hts hiX1 tyX1 tyX1_ok nmX1 hown hK hP hD hS 2 rfl rfl 2 (by decide) (hts (.fieldLink RX1 25 "TreapVersions$Way" "length" "I") (by decide +kernel)) (fun _ h9 => h9) rfl (by decide +kernel) rfl rfl (Nat.le_of_ble_eq_true rfl) dX1_placeNew_43 (fun H locs hP hD hS => ?_)
          obtain ⟨u15, eu15⟩ : ∃ z : CS, z = cset u8 11 (fun _ => z14) := ⟨_, rfl⟩
          have hP : va_P G vwCl (cw ad C V cI cZ (cset u8 11 (fun _ => z14))) H := hP
          have hD : va_D A (cw ad C V cI cZ (cset u8 11 (fun _ => z14))) := hD
          rw [← eu15] at hP hD
          have hw := stF.go hw u15 eu15
          refine lv_aload_n hx hb dX1_placeNew_46 rfl (lv_at hl 0 rfl) ?_
          refine va_get (D := G) (ci := 1) (v := .ref (ad 14)) (C := RX1) (T := TX1) (N := 3) hx hb hts hiX1 hown hK hP 2 rfl rfl 1 (by decide) (hts (.fieldLink RX1 21 "TreapVersions$Way" "noted" "[I") (by decide +kernel)) (fun _ h9 => h9) rfl dX1_placeNew_47 ?_
          refine lv_aload_n hx hb dX1_placeNew_50 rfl (lv_at hl 0 rfl) ?_
          refine va_get (D := G) (ci := 1) (v := .int (u15 11 0)) (C := RX1) (T := TX1) (N := 3) hx hb hts hiX1 hown hK hP 2 rfl rfl 2 (by decide) (hts (.fieldLink RX1 25 "TreapVersions$Way" "length" "I") (by decide +kernel)) (fun _ h9 => h9) rfl dX1_placeNew_51 ?_
          refine lv_topi (fun z16 ez16 => ?_)
          have hw := nmI.go hw z16 ez16
          refine va_iald hx hb hK hP 14 0 rfl rfl (rdA.hin hw) dX1_placeNew_54 ?_
          refine lv_topi (fun z17 ez17 => ?_)
          have hw := rdA.go hw z17 ez17
          refine lv_istore (lv' := [(6, .int z17), (0, .ref (ad 2)), (1, .int a1), (2, .int a2), (3, .int a3), (4, .int a4), (5, .int a5)]) hx hb dX1_placeNew_55 hl (by decide) rfl (fun ls hl => ?_)
          refine lv_aload_n hx hb dX1_placeNew_57 rfl (lv_at hl 1 rfl) ?_
          refine va_get (D := G) (ci := 1) (v := .ref (ad 1)) (C := RX1) (T := TX1) (N := 3) hx hb hts hiX1 hown hK hP 2 rfl rfl 0 (by decide) (hts (.fieldLink RX1 9 "TreapVersions$Way" "store" "LTreapVersions$Store;") (by decide +kernel)) (fun _ h9 => h9) rfl dX1_placeNew_58 ?_
          refine va_get (D := G) (ci := 0) (v := .ref (ad 5)) (C := RX0) (T := TX0) (N := 11) hx hb hts hiX0 hown hK hP 1 rfl rfl 1 (by decide) (hts (.fieldLink RX1 28 "TreapVersions$Store" "key" "[I") (by decide +kernel)) (fun _ h9 => h9) rfl dX1_placeNew_61 ?_
          refine lv_iload hx hb dX1_placeNew_64 (lv_at hl 0 rfl) ?_
          refine va_iald hx hb hK hP 5 0 rfl rfl (rdA.hin hw) dX1_placeNew_66 ?_
          refine lv_topi (fun z18 ez18 => ?_)
          have hw := rdA.go hw z18 ez18
          refine lv_iload_n hx hb dX1_placeNew_67 rfl (lv_at hl 2 rfl) ?_
          refine lv_icmp_ge (tgt := 97) hx hb dX1_placeNew_68 (by decide) (fun c19 => ?_) (fun c19 => ?_)
          · have hw := brN.t hw c19
            refine lv_aload_n hx hb dX1_placeNew_97 rfl (lv_at hl 1 rfl) ?_
            refine va_get (D := G) (ci := 1) (v := .ref (ad 1)) (C := RX1) (T := TX1) (N := 3) hx hb hts hiX1 hown hK hP 2 rfl rfl 0 (by decide) (hts (.fieldLink RX1 9 "TreapVersions$Way" "store" "LTreapVersions$Store;") (by decide +kernel)) (fun _ h9 => h9) rfl dX1_placeNew_98 ?_
            refine lv_iload hx hb dX1_placeNew_101 (lv_at hl 0 rfl) ?_
            refine lv_iload hx hb dX1_placeNew_103 (lv_at hl 6 rfl) ?_
            refine lv_aload_n hx hb dX1_placeNew_105 rfl (lv_at hl 1 rfl) ?_
            refine va_get (D := G) (ci := 1) (v := .ref (ad 1)) (C := RX1) (T := TX1) (N := 3) hx hb hts hiX1 hown hK hP 2 rfl rfl 0 (by decide) (hts (.fieldLink RX1 9 "TreapVersions$Way" "store" "LTreapVersions$Store;") (by decide +kernel)) (fun _ h9 => h9) rfl dX1_placeNew_106 ?_
            refine va_get (D := G) (ci := 0) (v := .ref (ad 9)) (C := RX0) (T := TX0) (N := 11) hx hb hts hiX0 hown hK hP 1 rfl rfl 5 (by decide) (hts (.fieldLink RX1 31 "TreapVersions$Store" "right" "[I") (by decide +kernel)) (fun _ h9 => h9) rfl dX1_placeNew_109 ?_
            refine lv_iload hx hb dX1_placeNew_112 (lv_at hl 0 rfl) ?_
            refine va_iald hx hb hK hP 9 0 rfl rfl (rdA.hin hw) dX1_placeNew_114 ?_
            refine lv_topi (fun z20 ez20 => ?_)
            have hw := rdA.go hw z20 ez20
            refine CtI.call (As := [.int z17, .int a5, .int z20]) (rest := []) (c_X0_copy l G ad C V cI cZ z17 a5 z20 u15 _ hw) ⟨hx, hb, hml, hown, hts⟩ (cwV 3 hts gX1_placeNew_X0_copy rfl rfl rfl (by decide +kernel) ⟨Nat.le_of_ble_eq_true rfl, Nat.le_of_ble_eq_true rfl⟩) (va_recv hK hP (ci := 0) (q0 := 1) rfl rfl) hK hP hD hS hA rfl hl.1 rfl (Nat.le_of_ble_eq_true rfl) dX1_placeNew_115 ⟨Nat.zero_le _, Nat.zero_le _⟩ (fun r22 u21 H locs hw hP hD hS => ?_)
            refine lv_istore (lv' := [(5, .int r22), (6, .int z17), (0, .ref (ad 2)), (1, .int a1), (2, .int a2), (3, .int a3), (4, .int a4)]) hx hb dX1_placeNew_118 hl (by decide) rfl (fun ls hl => ?_)
            refine lv_goto (tgt := 6) hx hb dX1_placeNew_120 (by decide) ?_
            exact ih a1 a2 a3 a4 r22 u21 hw _ _ hP hD hS _ (lv_sub hl [2, 3, 4, 5, 6, 0] rfl)
          · have hw := brN.f hw c19
            refine lv_aload_n hx hb dX1_placeNew_71 rfl (lv_at hl 1 rfl) ?_
            refine va_get (D := G) (ci := 1) (v := .ref (ad 1)) (C := RX1) (T := TX1) (N := 3) hx hb hts hiX1 hown hK hP 2 rfl rfl 0 (by decide) (hts (.fieldLink RX1 9 "TreapVersions$Way" "store" "LTreapVersions$Store;") (by decide +kernel)) (fun _ h9 => h9) rfl dX1_placeNew_72 ?_
            refine lv_iload hx hb dX1_placeNew_75 (lv_at hl 0 rfl) ?_
            refine lv_aload_n hx hb dX1_placeNew_77 rfl (lv_at hl 1 rfl) ?_
            refine va_get (D := G) (ci := 1) (v := .ref (ad 1)) (C := RX1) (T := TX1) (N := 3) hx hb hts hiX1 hown hK hP 2 rfl rfl 0 (by decide) (hts (.fieldLink RX1 9 "TreapVersions$Way" "store" "LTreapVersions$Store;") (by decide +kernel)) (fun _ h9 => h9) rfl dX1_placeNew_78 ?_
            refine va_get (D := G) (ci := 0) (v := .ref (ad 8)) (C := RX0) (T := TX0) (N := 11) hx hb hts hiX0 hown hK hP 1 rfl rfl 4 (by decide) (hts (.fieldLink RX1 34 "TreapVersions$Store" "left" "[I") (by decide +kernel)) (fun _ h9 => h9) rfl dX1_placeNew_81 ?_
            refine lv_iload hx hb dX1_placeNew_84 (lv_at hl 0 rfl) ?_
            refine va_iald hx hb hK hP 8 0 rfl rfl (rdA.hin hw) dX1_placeNew_86 ?_
            refine lv_topi (fun z23 ez23 => ?_)
            have hw := rdA.go hw z23 ez23
            refine lv_iload hx hb dX1_placeNew_87 (lv_at hl 5 rfl) ?_
            refine CtI.call (As := [.int z17, .int z23, .int a4]) (rest := []) (c_X0_copy l G ad C V cI cZ z17 z23 a4 u15 _ hw) ⟨hx, hb, hml, hown, hts⟩ (cwV 3 hts gX1_placeNew_X0_copy rfl rfl rfl (by decide +kernel) ⟨Nat.le_of_ble_eq_true rfl, Nat.le_of_ble_eq_true rfl⟩) (va_recv hK hP (ci := 0) (q0 := 1) rfl rfl) hK hP hD hS hA rfl hl.1 rfl (Nat.le_of_ble_eq_true rfl) dX1_placeNew_89 ⟨Nat.zero_le _, Nat.zero_le _⟩ (fun r25 u24 H locs hw hP hD hS => ?_)
            refine lv_istore (lv' := [(4, .int r25), (6, .int z17), (0, .ref (ad 2)), (1, .int a1), (2, .int a2), (3, .int a3), (5, .int a5)]) hx hb dX1_placeNew_92 hl (by decide) rfl (fun ls hl => ?_)
            refine lv_goto (tgt := 120) hx hb dX1_placeNew_94 (by decide) ?_
            refine lv_goto (tgt := 6) hx hb dX1_placeNew_120 (by decide) ?_
            exact ih a1 a2 a3 r25 a5 u24 hw _ _ hP hD hS _ (lv_sub hl [2, 3, 4, 5, 0, 6] rfl)
  unfold wp_X1_placeNew at hw
  refine lv_iconst (v := 0) hx hb dX1_placeNew_0 (by decide) ?_
  refine lv_istore (lv' := [(4, .int 0), (0, .ref (ad 2)), (1, .int p0), (2, .int p1), (3, .int p2)]) hx hb dX1_placeNew_1 hl (by decide) rfl (fun ls hl => ?_)
  refine lv_iconst (v := 0) hx hb dX1_placeNew_3 (by decide) ?_
  refine lv_istore (lv' := [(5, .int 0), (4, .int 0), (0, .ref (ad 2)), (1, .int p0), (2, .int p1), (3, .int p2)]) hx hb dX1_placeNew_4 hl (by decide) rfl (fun ls hl => ?_)
  obtain ⟨n9, hw⟩ := hw
  exact hlp6 n9 p0 p1 p2 0 0 u hw _ _ hP hD hS _ (lv_sub hl [2, 3, 4, 5, 1, 0] rfl)
set_option maxHeartbeats 4000000 in
set_option maxRecDepth 100000 in
theorem c_X1_copyOver (l : Launch) (G : va_G) (ad : Nat → Nat) (C V : Nat) (cI cZ : ClassId) (p0 : Int32) (p1 : Int32) (u : CS) (post : Int32 → CS → Prop) (hw : wp_X1_copyOver C V p0 p1 u post) : CtI l yX1_copyOver wsX1_copyOver ({ frames := 3, cells := 0, slots := 0, locals := 70 }) G (ty2 cI cZ) (cw ad C V cI cZ) [.ref (ad 2), .int p0, .int p1] u post := by
  refine CtI.of (cc := cX1_copyOver) (maxL := 5) (rt := .int) (by decide) rfl (Nat.le_of_ble_eq_true rfl) ?_
  intro p e s m below meth c A Q hx hb hml hts hown hK hA hret ls hl hP hD hS
  have hiX0 : ∀ w ∈ u_ws RX0 TX0 11, w ∈ wsX1_copyOver := by decide +kernel
  have hiX1 : ∀ w ∈ u_ws RX1 TX1 3, w ∈ wsX1_copyOver := by decide +kernel
  have hown : s.vm.findClass RX1 = some m.cls := hown
  have hl : lv_has ls 5 [(0, .ref (ad 2)), (1, .int p0), (2, .int p1)] := hl
  have hlp2 : ∀ (n : Nat) (a2 : Int32) (a3 : Int32) (u : CS), lp_X1_copyOver_2 C V post n a2 a3 u → ∀ (H : Heap) (locs : List Loc), va_P G vwCl (cw ad C V cI cZ u) H → va_D A (cw ad C V cI cZ u) → va_S A s.heap H locs → ∀ ls : Array Slot, lv_has ls 5 [(0, .ref (ad 2)), (2, .int a2), (3, .int a3)] → W p l e ({ frames := 3, cells := 0, slots := 0, locals := 70 }) s m ([.ref (ad 2), .int p0, .int p1] : List Value).toArray below meth c H locs 0 0 Q (F0 m 2 ls []) := by
    clear hw hl hP hD hS
    intro n
    induction n with
    | zero => intro a2 a3 u hw; exact False.elim hw
    | succ n ih =>
      intro a2 a3 u hw H locs hP hD hS ls hl
      unfold lp_X1_copyOver_2 at hw
      refine lv_aload_n hx hb dX1_copyOver_2 rfl (lv_at hl 0 rfl) ?_
      refine va_get (D := G) (ci := 1) (v := .int (u 11 0)) (C := RX1) (T := TX1) (N := 3) hx hb hts hiX1 hown hK hP 2 rfl rfl 2 (by decide) (hts (.fieldLink RX1 25 "TreapVersions$Way" "length" "I") (by decide +kernel)) (fun _ h9 => h9) rfl dX1_copyOver_3 ?_
      refine lv_topi (fun z1 ez1 => ?_)
      have hw := nmI.go hw z1 ez1
      refine lv_if_le (tgt := 91) hx hb dX1_copyOver_6 (by decide) (fun c2 => ?_) (fun c2 => ?_)
      · have hw := brN.t hw c2
        refine lv_iload_n hx hb dX1_copyOver_91 rfl (lv_at hl 2 rfl) ?_
        exact hret a3 u 92 _ _ _ dX1_copyOver_92 rfl hw hP hD hS
      · have hw := brN.f hw c2
        refine lv_aload_n hx hb dX1_copyOver_9 rfl (lv_at hl 0 rfl) ?_
        refine lv_dup hx hb dX1_copyOver_10 rfl ?_
        refine va_get (D := G) (ci := 1) (v := .int (u 11 0)) (C := RX1) (T := TX1) (N := 3) hx hb hts hiX1 hown hK hP 2 rfl rfl 2 (by decide) (hts (.fieldLink RX1 25 "TreapVersions$Way" "length" "I") (by decide +kernel)) (fun _ h9 => h9) rfl dX1_copyOver_11 ?_
        refine lv_topi (fun z3 ez3 => ?_)
        have hw := nmI.go hw z3 ez3
        refine lv_iconst (v := 1) hx hb dX1_copyOver_14 (by decide) ?_
        refine lv_isub hx hb dX1_copyOver_15 ?_
        refine lv_topi (fun z4 ez4 => ?_)
        have hw := nmI.go hw z4 ez4
        refine va_put (D := G) (ci := 1) (v := .int z4) (ty := .int) (C := RX1) (T := TX1) (N := 3) hx hb hts hiX1 tyX1 tyX1_ok nmX1 hown hK hP hD hS 2 rfl rfl 2 (by decide) (hts (.fieldLink RX1 25 "TreapVersions$Way" "length" "I") (by decide +kernel)) (fun _ h9 => h9) rfl (by decide +kernel) rfl rfl (Nat.le_of_ble_eq_true rfl) dX1_copyOver_16 (fun H locs hP hD hS => ?_)
        obtain ⟨u5, eu5⟩ : ∃ z : CS, z = cset u 11 (fun _ => z4) := ⟨_, rfl⟩
        have hP : va_P G vwCl (cw ad C V cI cZ (cset u 11 (fun _ => z4))) H := hP
        have hD : va_D A (cw ad C V cI cZ (cset u 11 (fun _ => z4))) := hD
        rw [← eu5] at hP hD
        have hw := stF.go hw u5 eu5
        refine lv_aload_n hx hb dX1_copyOver_19 rfl (lv_at hl 0 rfl) ?_
        refine va_get (D := G) (ci := 1) (v := .ref (ad 14)) (C := RX1) (T := TX1) (N := 3) hx hb hts hiX1 hown hK hP 2 rfl rfl 1 (by decide) (hts (.fieldLink RX1 21 "TreapVersions$Way" "noted" "[I") (by decide +kernel)) (fun _ h9 => h9) rfl dX1_copyOver_20 ?_
        refine lv_aload_n hx hb dX1_copyOver_23 rfl (lv_at hl 0 rfl) ?_
        refine va_get (D := G) (ci := 1) (v := .int (u5 11 0)) (C := RX1) (T := TX1) (N := 3) hx hb hts hiX1 hown hK hP 2 rfl rfl 2 (by decide) (hts (.fieldLink RX1 25 "TreapVersions$Way" "length" "I") (by decide +kernel)) (fun _ h9 => h9) rfl dX1_copyOver_24 ?_
        refine lv_topi (fun z6 ez6 => ?_)
        have hw := nmI.go hw z6 ez6
        refine va_iald hx hb hK hP 14 0 rfl rfl (rdA.hin hw) dX1_copyOver_27 ?_
        refine lv_topi (fun z7 ez7 => ?_)
        have hw := rdA.go hw z7 ez7
        refine lv_istore (lv' := [(4, .int z7), (0, .ref (ad 2)), (2, .int a2), (3, .int a3)]) hx hb dX1_copyOver_28 hl (by decide) rfl (fun ls hl => ?_)
        refine lv_aload_n hx hb dX1_copyOver_30 rfl (lv_at hl 1 rfl) ?_
        refine va_get (D := G) (ci := 1) (v := .ref (ad 1)) (C := RX1) (T := TX1) (N := 3) hx hb hts hiX1 hown hK hP 2 rfl rfl 0 (by decide) (hts (.fieldLink RX1 9 "TreapVersions$Way" "store" "LTreapVersions$Store;") (by decide +kernel)) (fun _ h9 => h9) rfl dX1_copyOver_31 ?_
        refine va_get (D := G) (ci := 0) (v := .ref (ad 5)) (C := RX0) (T := TX0) (N := 11) hx hb hts hiX0 hown hK hP 1 rfl rfl 1 (by decide) (hts (.fieldLink RX1 28 "TreapVersions$Store" "key" "[I") (by decide +kernel)) (fun _ h9 => h9) rfl dX1_copyOver_34 ?_
        refine lv_iload hx hb dX1_copyOver_37 (lv_at hl 0 rfl) ?_
        refine va_iald hx hb hK hP 5 0 rfl rfl (rdA.hin hw) dX1_copyOver_39 ?_
        refine lv_topi (fun z8 ez8 => ?_)
        have hw := rdA.go hw z8 ez8
        refine lv_iload_n hx hb dX1_copyOver_40 rfl (lv_at hl 2 rfl) ?_
        refine lv_icmp_ge (tgt := 67) hx hb dX1_copyOver_41 (by decide) (fun c9 => ?_) (fun c9 => ?_)
        · have hw := brN.t hw c9
          refine lv_aload_n hx hb dX1_copyOver_67 rfl (lv_at hl 1 rfl) ?_
          refine va_get (D := G) (ci := 1) (v := .ref (ad 1)) (C := RX1) (T := TX1) (N := 3) hx hb hts hiX1 hown hK hP 2 rfl rfl 0 (by decide) (hts (.fieldLink RX1 9 "TreapVersions$Way" "store" "LTreapVersions$Store;") (by decide +kernel)) (fun _ h9 => h9) rfl dX1_copyOver_68 ?_
          refine lv_iload hx hb dX1_copyOver_71 (lv_at hl 0 rfl) ?_
          refine lv_iload_n hx hb dX1_copyOver_73 rfl (lv_at hl 3 rfl) ?_
          refine lv_aload_n hx hb dX1_copyOver_74 rfl (lv_at hl 1 rfl) ?_
          refine va_get (D := G) (ci := 1) (v := .ref (ad 1)) (C := RX1) (T := TX1) (N := 3) hx hb hts hiX1 hown hK hP 2 rfl rfl 0 (by decide) (hts (.fieldLink RX1 9 "TreapVersions$Way" "store" "LTreapVersions$Store;") (by decide +kernel)) (fun _ h9 => h9) rfl dX1_copyOver_75 ?_
          refine va_get (D := G) (ci := 0) (v := .ref (ad 9)) (C := RX0) (T := TX0) (N := 11) hx hb hts hiX0 hown hK hP 1 rfl rfl 5 (by decide) (hts (.fieldLink RX1 31 "TreapVersions$Store" "right" "[I") (by decide +kernel)) (fun _ h9 => h9) rfl dX1_copyOver_78 ?_
          refine lv_iload hx hb dX1_copyOver_81 (lv_at hl 0 rfl) ?_
          refine va_iald hx hb hK hP 9 0 rfl rfl (rdA.hin hw) dX1_copyOver_83 ?_
          refine lv_topi (fun z10 ez10 => ?_)
          have hw := rdA.go hw z10 ez10
          refine CtI.call (As := [.int z7, .int a3, .int z10]) (rest := []) (c_X0_copy l G ad C V cI cZ z7 a3 z10 u5 _ hw) ⟨hx, hb, hml, hown, hts⟩ (cwV 3 hts gX1_copyOver_X0_copy rfl rfl rfl (by decide +kernel) ⟨Nat.le_of_ble_eq_true rfl, Nat.le_of_ble_eq_true rfl⟩) (va_recv hK hP (ci := 0) (q0 := 1) rfl rfl) hK hP hD hS hA rfl hl.1 rfl (Nat.le_of_ble_eq_true rfl) dX1_copyOver_84 ⟨Nat.zero_le _, Nat.zero_le _⟩ (fun r12 u11 H locs hw hP hD hS => ?_)
          refine lv_istore_n (lv' := [(3, .int r12), (4, .int z7), (0, .ref (ad 2)), (2, .int a2)]) hx hb dX1_copyOver_87 rfl hl (by decide) rfl (fun ls hl => ?_)
          refine lv_goto (tgt := 2) hx hb dX1_copyOver_88 (by decide) ?_
          exact ih a2 r12 u11 hw _ _ hP hD hS _ (lv_sub hl [2, 3, 0] rfl)
        · have hw := brN.f hw c9
          refine lv_aload_n hx hb dX1_copyOver_44 rfl (lv_at hl 1 rfl) ?_
          refine va_get (D := G) (ci := 1) (v := .ref (ad 1)) (C := RX1) (T := TX1) (N := 3) hx hb hts hiX1 hown hK hP 2 rfl rfl 0 (by decide) (hts (.fieldLink RX1 9 "TreapVersions$Way" "store" "LTreapVersions$Store;") (by decide +kernel)) (fun _ h9 => h9) rfl dX1_copyOver_45 ?_
          refine lv_iload hx hb dX1_copyOver_48 (lv_at hl 0 rfl) ?_
          refine lv_aload_n hx hb dX1_copyOver_50 rfl (lv_at hl 1 rfl) ?_
          refine va_get (D := G) (ci := 1) (v := .ref (ad 1)) (C := RX1) (T := TX1) (N := 3) hx hb hts hiX1 hown hK hP 2 rfl rfl 0 (by decide) (hts (.fieldLink RX1 9 "TreapVersions$Way" "store" "LTreapVersions$Store;") (by decide +kernel)) (fun _ h9 => h9) rfl dX1_copyOver_51 ?_
          refine va_get (D := G) (ci := 0) (v := .ref (ad 8)) (C := RX0) (T := TX0) (N := 11) hx hb hts hiX0 hown hK hP 1 rfl rfl 4 (by decide) (hts (.fieldLink RX1 34 "TreapVersions$Store" "left" "[I") (by decide +kernel)) (fun _ h9 => h9) rfl dX1_copyOver_54 ?_
          refine lv_iload hx hb dX1_copyOver_57 (lv_at hl 0 rfl) ?_
          refine va_iald hx hb hK hP 8 0 rfl rfl (rdA.hin hw) dX1_copyOver_59 ?_
          refine lv_topi (fun z13 ez13 => ?_)
          have hw := rdA.go hw z13 ez13
          refine lv_iload_n hx hb dX1_copyOver_60 rfl (lv_at hl 3 rfl) ?_
          refine CtI.call (As := [.int z7, .int z13, .int a3]) (rest := []) (c_X0_copy l G ad C V cI cZ z7 z13 a3 u5 _ hw) ⟨hx, hb, hml, hown, hts⟩ (cwV 3 hts gX1_copyOver_X0_copy rfl rfl rfl (by decide +kernel) ⟨Nat.le_of_ble_eq_true rfl, Nat.le_of_ble_eq_true rfl⟩) (va_recv hK hP (ci := 0) (q0 := 1) rfl rfl) hK hP hD hS hA rfl hl.1 rfl (Nat.le_of_ble_eq_true rfl) dX1_copyOver_61 ⟨Nat.zero_le _, Nat.zero_le _⟩ (fun r15 u14 H locs hw hP hD hS => ?_)
          refine lv_goto (tgt := 87) hx hb dX1_copyOver_64 (by decide) ?_
          refine lv_istore_n (lv' := [(3, .int r15), (4, .int z7), (0, .ref (ad 2)), (2, .int a2)]) hx hb dX1_copyOver_87 rfl hl (by decide) rfl (fun ls hl => ?_)
          refine lv_goto (tgt := 2) hx hb dX1_copyOver_88 (by decide) ?_
          exact ih a2 r15 u14 hw _ _ hP hD hS _ (lv_sub hl [2, 3, 0] rfl)
  unfold wp_X1_copyOver at hw
  refine lv_iload_n hx hb dX1_copyOver_0 rfl (lv_at hl 1 rfl) ?_
  refine lv_istore_n (lv' := [(3, .int p0), (0, .ref (ad 2)), (1, .int p0), (2, .int p1)]) hx hb dX1_copyOver_1 rfl hl (by decide) rfl (fun ls hl => ?_)
  obtain ⟨n9, hw⟩ := hw
  exact hlp2 n9 p1 p0 u hw _ _ hP hD hS _ (lv_sub hl [1, 3, 0] rfl)
