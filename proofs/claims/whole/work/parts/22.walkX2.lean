set_option maxHeartbeats 4000000 in
set_option maxRecDepth 100000 in
theorem c_X2_isLive (l : Launch) (G : va_G) (ad : Nat → Nat) (C V : Nat) (cI cZ : ClassId) (p0 : Int32) (u : CS) (post : Int32 → CS → Prop) (hw : wp_X2_isLive C V p0 u post) : CtI l yX2_isLive wsX2_isLive ({ frames := 0, cells := 0, slots := 0, locals := 0 }) G (ty2 cI cZ) (cw ad C V cI cZ) [.ref (ad 0), .int p0] u (fun r u => isB r ∧ post r u) := by
  refine CtI.of (cc := cX2_isLive) (maxL := 2) (rt := .boolean) (by decide) rfl (Nat.le_of_ble_eq_true rfl) ?_
  intro p e s m below meth c A Q hx hb hml hts hown hK hA hret ls hl hP hD hS
  have hiX2 : ∀ w ∈ u_ws RX2 TX2 6, w ∈ wsX2_isLive := by decide +kernel
  have hown : s.vm.findClass RX2 = some m.cls := hown
  have hl : lv_has ls 2 [(0, .ref (ad 0)), (1, .int p0)] := hl
  unfold wp_X2_isLive at hw
  refine lv_iload_n hx hb dX2_isLive_0 rfl (lv_at hl 1 rfl) ?_
  refine lv_if_lt (tgt := 26) hx hb dX2_isLive_1 (by decide) (fun c1 => ?_) (fun c1 => ?_)
  · have hw := brN.t hw c1
    refine lv_iconst (v := 0) hx hb dX2_isLive_26 (by decide) ?_
    exact hret 0 u 27 _ _ _ dX2_isLive_27 rfl ⟨isB_0, hw⟩ hP hD hS
  · have hw := brN.f hw c1
    refine lv_iload_n hx hb dX2_isLive_4 rfl (lv_at hl 1 rfl) ?_
    refine lv_aload_n hx hb dX2_isLive_5 rfl (lv_at hl 0 rfl) ?_
    refine va_get (D := G) (ci := 2) (v := .ref (ad 3)) (C := RX2) (T := TX2) (N := 6) hx hb hts hiX2 hown hK hP 0 rfl rfl 2 (by decide) (hts (.fieldLink RX2 27 "TreapVersions" "live" "[Z") (by decide +kernel)) (fun _ h9 => h9) rfl dX2_isLive_6 ?_
    refine va_alen hx hb hK hP 3 1 rfl rfl (v := nI V) rfl dX2_isLive_9 ?_
    refine lv_topi (fun z2 ez2 => ?_)
    have hw := nmI.go hw z2 ez2
    refine lv_icmp_ge (tgt := 26) hx hb dX2_isLive_10 (by decide) (fun c3 => ?_) (fun c3 => ?_)
    · have hw := brN.t hw c3
      refine lv_iconst (v := 0) hx hb dX2_isLive_26 (by decide) ?_
      exact hret 0 u 27 _ _ _ dX2_isLive_27 rfl ⟨isB_0, hw⟩ hP hD hS
    · have hw := brN.f hw c3
      refine lv_aload_n hx hb dX2_isLive_13 rfl (lv_at hl 0 rfl) ?_
      refine va_get (D := G) (ci := 2) (v := .ref (ad 3)) (C := RX2) (T := TX2) (N := 6) hx hb hts hiX2 hown hK hP 0 rfl rfl 2 (by decide) (hts (.fieldLink RX2 27 "TreapVersions" "live" "[Z") (by decide +kernel)) (fun _ h9 => h9) rfl dX2_isLive_14 ?_
      refine lv_iload_n hx hb dX2_isLive_17 rfl (lv_at hl 1 rfl) ?_
      refine va_zald hx hb hK hP 3 1 rfl rfl (rdA.hin hw) dX2_isLive_18 ?_
      refine lv_topi (fun z4 ez4 => ?_)
      have hw := rdA.go hw z4 ez4
      refine lv_if_eq (tgt := 26) hx hb dX2_isLive_19 (by decide) (fun c5 => ?_) (fun c5 => ?_)
      · have hw := brN.t hw c5
        refine lv_iconst (v := 0) hx hb dX2_isLive_26 (by decide) ?_
        exact hret 0 u 27 _ _ _ dX2_isLive_27 rfl ⟨isB_0, hw⟩ hP hD hS
      · have hw := brN.f hw c5
        refine lv_iconst (v := 1) hx hb dX2_isLive_22 (by decide) ?_
        refine lv_goto (tgt := 27) hx hb dX2_isLive_23 (by decide) ?_
        exact hret 1 u 27 _ _ _ dX2_isLive_27 rfl ⟨isB_1, hw⟩ hP hD hS
set_option maxHeartbeats 4000000 in
set_option maxRecDepth 100000 in
theorem c_X2_nodeWith (l : Launch) (G : va_G) (ad : Nat → Nat) (C V : Nat) (cI cZ : ClassId) (p0 : Int32) (p1 : Int32) (u : CS) (post : Int32 → CS → Prop) (hw : wp_X2_nodeWith C V p0 p1 u post) : CtI l yX2_nodeWith wsX2_nodeWith ({ frames := 1, cells := 0, slots := 0, locals := 23 }) G (ty2 cI cZ) (cw ad C V cI cZ) [.ref (ad 0), .int p0, .int p1] u post := by
  refine CtI.of (cc := cX2_nodeWith) (maxL := 3) (rt := .int) (by decide) rfl (Nat.le_of_ble_eq_true rfl) ?_
  intro p e s m below meth c A Q hx hb hml hts hown hK hA hret ls hl hP hD hS
  have hiX2 : ∀ w ∈ u_ws RX2 TX2 6, w ∈ wsX2_nodeWith := by decide +kernel
  have hown : s.vm.findClass RX2 = some m.cls := hown
  have hl : lv_has ls 3 [(0, .ref (ad 0)), (1, .int p0), (2, .int p1)] := hl
  unfold wp_X2_nodeWith at hw
  refine lv_aload_n hx hb dX2_nodeWith_0 rfl (lv_at hl 0 rfl) ?_
  refine lv_iload_n hx hb dX2_nodeWith_1 rfl (lv_at hl 1 rfl) ?_
  refine CtI.call (As := [.int p0]) (rest := []) (c_X2_isLive l G ad C V cI cZ p0 u _ hw) ⟨hx, hb, hml, hown, hts⟩ (cwV 1 hts gX2_nodeWith_X2_isLive rfl rfl rfl (by decide +kernel) ⟨Nat.le_of_ble_eq_true rfl, Nat.le_of_ble_eq_true rfl⟩) (va_recv hK hP (ci := 2) (q0 := 0) rfl rfl) hK hP hD hS hA rfl hl.1 rfl (Nat.le_of_ble_eq_true rfl) dX2_nodeWith_2 ⟨Nat.zero_le _, Nat.zero_le _⟩ (fun r2 u1 H locs hw hP hD hS => ?_)
  obtain ⟨hz, hw⟩ := hw
  refine lv_if_eq (tgt := 25) hx hb dX2_nodeWith_5 (by decide) (fun c3 => ?_) (fun c3 => ?_)
  · have hw := brN.t hw c3
    refine lv_iconst (v := 0) hx hb dX2_nodeWith_25 (by decide) ?_
    exact hret 0 u1 26 _ _ _ dX2_nodeWith_26 rfl hw hP hD hS
  · have hw := brN.f hw c3
    refine lv_aload_n hx hb dX2_nodeWith_8 rfl (lv_at hl 0 rfl) ?_
    refine va_get (D := G) (ci := 2) (v := .ref (ad 2)) (C := RX2) (T := TX2) (N := 6) hx hb hts hiX2 hown hK hP 0 rfl rfl 1 (by decide) (hts (.fieldLink RX2 23 "TreapVersions" "way" "LTreapVersions$Way;") (by decide +kernel)) (fun _ h9 => h9) rfl dX2_nodeWith_9 ?_
    refine lv_aload_n hx hb dX2_nodeWith_12 rfl (lv_at hl 0 rfl) ?_
    refine va_get (D := G) (ci := 2) (v := .ref (ad 4)) (C := RX2) (T := TX2) (N := 6) hx hb hts hiX2 hown hK hP 0 rfl rfl 3 (by decide) (hts (.fieldLink RX2 31 "TreapVersions" "roots" "[I") (by decide +kernel)) (fun _ h9 => h9) rfl dX2_nodeWith_13 ?_
    refine lv_iload_n hx hb dX2_nodeWith_16 rfl (lv_at hl 1 rfl) ?_
    refine va_iald hx hb hK hP 4 0 rfl rfl (rdA.hin hw) dX2_nodeWith_17 ?_
    refine lv_topi (fun z4 ez4 => ?_)
    have hw := rdA.go hw z4 ez4
    refine lv_iload_n hx hb dX2_nodeWith_18 rfl (lv_at hl 2 rfl) ?_
    refine CtI.call (As := [.int z4, .int p1]) (rest := []) (c_X1_noteTo l G ad C V cI cZ z4 p1 u1 _ hw) ⟨hx, hb, hml, hown, hts⟩ (cwV 2 hts gX2_nodeWith_X1_noteTo rfl rfl rfl (by decide +kernel) ⟨Nat.le_of_ble_eq_true rfl, Nat.le_of_ble_eq_true rfl⟩) (va_recv hK hP (ci := 1) (q0 := 2) rfl rfl) hK hP hD hS hA rfl hl.1 rfl (Nat.le_of_ble_eq_true rfl) dX2_nodeWith_19 ⟨Nat.zero_le _, Nat.zero_le _⟩ (fun r6 u5 H locs hw hP hD hS => ?_)
    refine lv_goto (tgt := 26) hx hb dX2_nodeWith_22 (by decide) ?_
    exact hret r6 u5 26 _ _ _ dX2_nodeWith_26 rfl hw hP hD hS
set_option maxHeartbeats 4000000 in
set_option maxRecDepth 100000 in
theorem c_X2_reachLive (l : Launch) (G : va_G) (ad : Nat → Nat) (C V : Nat) (cI cZ : ClassId) (u : CS) (post : Int32 → CS → Prop) (hw : wp_X2_reachLive C V u post) : CtI l yX2_reachLive wsX2_reachLive ({ frames := 2, cells := 0, slots := 0, locals := 48 }) G (ty2 cI cZ) (cw ad C V cI cZ) [.ref (ad 0)] u post := by
  refine CtI.of (cc := cX2_reachLive) (maxL := 3) (rt := .int) (by decide) rfl (Nat.le_of_ble_eq_true rfl) ?_
  intro p e s m below meth c A Q hx hb hml hts hown hK hA hret ls hl hP hD hS
  have hiX2 : ∀ w ∈ u_ws RX2 TX2 6, w ∈ wsX2_reachLive := by decide +kernel
  have hown : s.vm.findClass RX2 = some m.cls := hown
  have hl : lv_has ls 3 [(0, .ref (ad 0))] := hl
  have hlp11 : ∀ (n : Nat) (a1 : Int32) (a2 : Int32) (u : CS), lp_X2_reachLive_11 C V post n a1 a2 u → ∀ (H : Heap) (locs : List Loc), va_P G vwCl (cw ad C V cI cZ u) H → va_D A (cw ad C V cI cZ u) → va_S A s.heap H locs → ∀ ls : Array Slot, lv_has ls 3 [(0, .ref (ad 0)), (1, .int a1), (2, .int a2)] → W p l e ({ frames := 2, cells := 0, slots := 0, locals := 48 }) s m ([.ref (ad 0)] : List Value).toArray below meth c H locs 0 0 Q (F0 m 11 ls []) := by
    clear hw hl hP hD hS
    intro n
    induction n with
    | zero => intro a1 a2 u hw; exact False.elim hw
    | succ n ih =>
      intro a1 a2 u hw H locs hP hD hS ls hl
      unfold lp_X2_reachLive_11 at hw
      refine lv_iload_n hx hb dX2_reachLive_11 rfl (lv_at hl 2 rfl) ?_
      refine lv_aload_n hx hb dX2_reachLive_12 rfl (lv_at hl 0 rfl) ?_
      refine va_get (D := G) (ci := 2) (v := .ref (ad 3)) (C := RX2) (T := TX2) (N := 6) hx hb hts hiX2 hown hK hP 0 rfl rfl 2 (by decide) (hts (.fieldLink RX2 27 "TreapVersions" "live" "[Z") (by decide +kernel)) (fun _ h9 => h9) rfl dX2_reachLive_13 ?_
      refine va_alen hx hb hK hP 3 1 rfl rfl (v := nI V) rfl dX2_reachLive_16 ?_
      refine lv_topi (fun z2 ez2 => ?_)
      have hw := nmI.go hw z2 ez2
      refine lv_icmp_ge (tgt := 51) hx hb dX2_reachLive_17 (by decide) (fun c3 => ?_) (fun c3 => ?_)
      · have hw := brN.t hw c3
        refine lv_iload_n hx hb dX2_reachLive_51 rfl (lv_at hl 1 rfl) ?_
        exact hret a1 u 52 _ _ _ dX2_reachLive_52 rfl hw hP hD hS
      · have hw := brN.f hw c3
        refine lv_aload_n hx hb dX2_reachLive_20 rfl (lv_at hl 0 rfl) ?_
        refine va_get (D := G) (ci := 2) (v := .ref (ad 3)) (C := RX2) (T := TX2) (N := 6) hx hb hts hiX2 hown hK hP 0 rfl rfl 2 (by decide) (hts (.fieldLink RX2 27 "TreapVersions" "live" "[Z") (by decide +kernel)) (fun _ h9 => h9) rfl dX2_reachLive_21 ?_
        refine lv_iload_n hx hb dX2_reachLive_24 rfl (lv_at hl 2 rfl) ?_
        refine va_zald hx hb hK hP 3 1 rfl rfl (rdA.hin hw) dX2_reachLive_25 ?_
        refine lv_topi (fun z4 ez4 => ?_)
        have hw := rdA.go hw z4 ez4
        refine lv_if_eq (tgt := 45) hx hb dX2_reachLive_26 (by decide) (fun c5 => ?_) (fun c5 => ?_)
        · have hw := brN.t hw c5
          obtain ⟨z6, ez6⟩ : ∃ y : Int32, y = a2 + 1 := ⟨_, rfl⟩
          have hw := nmI.go hw z6 ez6
          refine lv_iinc (v := z6) (lv' := [(2, .int z6), (0, .ref (ad 0)), (1, .int a1)]) hx hb dX2_reachLive_45 hl (k := 2) rfl (by rw [ez6]; rfl) (by decide) rfl (fun ls hl => ?_)
          refine lv_goto (tgt := 11) hx hb dX2_reachLive_48 (by decide) ?_
          exact ih a1 z6 u hw _ _ hP hD hS _ (lv_sub hl [1, 2, 0] rfl)
        · have hw := brN.f hw c5
          refine lv_iload_n hx hb dX2_reachLive_29 rfl (lv_at hl 1 rfl) ?_
          refine lv_aload_n hx hb dX2_reachLive_30 rfl (lv_at hl 0 rfl) ?_
          refine va_get (D := G) (ci := 2) (v := .ref (ad 1)) (C := RX2) (T := TX2) (N := 6) hx hb hts hiX2 hown hK hP 0 rfl rfl 0 (by decide) (hts (.fieldLink RX2 14 "TreapVersions" "store" "LTreapVersions$Store;") (by decide +kernel)) (fun _ h9 => h9) rfl dX2_reachLive_31 ?_
          refine lv_aload_n hx hb dX2_reachLive_34 rfl (lv_at hl 0 rfl) ?_
          refine va_get (D := G) (ci := 2) (v := .ref (ad 4)) (C := RX2) (T := TX2) (N := 6) hx hb hts hiX2 hown hK hP 0 rfl rfl 3 (by decide) (hts (.fieldLink RX2 31 "TreapVersions" "roots" "[I") (by decide +kernel)) (fun _ h9 => h9) rfl dX2_reachLive_35 ?_
          refine lv_iload_n hx hb dX2_reachLive_38 rfl (lv_at hl 2 rfl) ?_
          refine va_iald hx hb hK hP 4 0 rfl rfl (rdA.hin hw) dX2_reachLive_39 ?_
          refine lv_topi (fun z7 ez7 => ?_)
          have hw := rdA.go hw z7 ez7
          refine CtI.call (As := [.int z7]) (rest := [.int a1]) (c_X0_reach l G ad C V cI cZ z7 u _ hw) ⟨hx, hb, hml, hown, hts⟩ (cwV 1 hts gX2_reachLive_X0_reach rfl rfl rfl (by decide +kernel) ⟨Nat.le_of_ble_eq_true rfl, Nat.le_of_ble_eq_true rfl⟩) (va_recv hK hP (ci := 0) (q0 := 1) rfl rfl) hK hP hD hS hA rfl hl.1 rfl (Nat.le_of_ble_eq_true rfl) dX2_reachLive_40 ⟨Nat.zero_le _, Nat.zero_le _⟩ (fun r9 u8 H locs hw hP hD hS => ?_)
          refine lv_iadd hx hb dX2_reachLive_43 ?_
          refine lv_topi (fun z10 ez10 => ?_)
          have hw := nmI.go hw z10 ez10
          refine lv_istore_n (lv' := [(1, .int z10), (0, .ref (ad 0)), (2, .int a2)]) hx hb dX2_reachLive_44 rfl hl (by decide) rfl (fun ls hl => ?_)
          obtain ⟨z11, ez11⟩ : ∃ y : Int32, y = a2 + 1 := ⟨_, rfl⟩
          have hw := nmI.go hw z11 ez11
          refine lv_iinc (v := z11) (lv' := [(2, .int z11), (1, .int z10), (0, .ref (ad 0))]) hx hb dX2_reachLive_45 hl (k := 2) rfl (by rw [ez11]; rfl) (by decide) rfl (fun ls hl => ?_)
          refine lv_goto (tgt := 11) hx hb dX2_reachLive_48 (by decide) ?_
          exact ih z10 z11 u8 hw _ _ hP hD hS _ (lv_sub hl [2, 1, 0] rfl)
  unfold wp_X2_reachLive at hw
  refine lv_aload_n hx hb dX2_reachLive_0 rfl (lv_at hl 0 rfl) ?_
  refine va_get (D := G) (ci := 2) (v := .ref (ad 1)) (C := RX2) (T := TX2) (N := 6) hx hb hts hiX2 hown hK hP 0 rfl rfl 0 (by decide) (hts (.fieldLink RX2 14 "TreapVersions" "store" "LTreapVersions$Store;") (by decide +kernel)) (fun _ h9 => h9) rfl dX2_reachLive_1 ?_
  refine CtV.call (As := []) (rest := []) (c_X0_forgetReached l G ad C V cI cZ u _ hw) ⟨hx, hb, hml, hown, hts⟩ (cwV 0 hts gX2_reachLive_X0_forgetReached rfl rfl rfl (by decide +kernel) ⟨Nat.le_of_ble_eq_true rfl, Nat.le_of_ble_eq_true rfl⟩) (va_recv hK hP (ci := 0) (q0 := 1) rfl rfl) hK hP hD hS hA rfl hl.1 rfl (Nat.le_of_ble_eq_true rfl) dX2_reachLive_4 ⟨Nat.zero_le _, Nat.zero_le _⟩ (fun u1 H locs hw hP hD hS => ?_)
  refine lv_iconst (v := 0) hx hb dX2_reachLive_7 (by decide) ?_
  refine lv_istore_n (lv' := [(1, .int 0), (0, .ref (ad 0))]) hx hb dX2_reachLive_8 rfl hl (by decide) rfl (fun ls hl => ?_)
  refine lv_iconst (v := 0) hx hb dX2_reachLive_9 (by decide) ?_
  refine lv_istore_n (lv' := [(2, .int 0), (1, .int 0), (0, .ref (ad 0))]) hx hb dX2_reachLive_10 rfl hl (by decide) rfl (fun ls hl => ?_)
  obtain ⟨n9, hw⟩ := hw
  exact hlp11 n9 0 0 u1 hw _ _ hP hD hS _ (lv_sub hl [2, 1, 0] rfl)
set_option maxHeartbeats 4000000 in
set_option maxRecDepth 100000 in
theorem c_X2_makeRoom (l : Launch) (G : va_G) (ad : Nat → Nat) (C V : Nat) (cI cZ : ClassId) (p0 : Int32) (u : CS) (post : Int32 → CS → Prop) (hw : wp_X2_makeRoom C V p0 u post) : CtI l yX2_makeRoom wsX2_makeRoom ({ frames := 3, cells := 0, slots := 0, locals := 70 }) G (ty2 cI cZ) (cw ad C V cI cZ) [.ref (ad 0), .int p0] u (fun r u => isB r ∧ post r u) := by
  refine CtI.of (cc := cX2_makeRoom) (maxL := 2) (rt := .boolean) (by decide) rfl (Nat.le_of_ble_eq_true rfl) ?_
  intro p e s m below meth c A Q hx hb hml hts hown hK hA hret ls hl hP hD hS
  have hiX2 : ∀ w ∈ u_ws RX2 TX2 6, w ∈ wsX2_makeRoom := by decide +kernel
  have hown : s.vm.findClass RX2 = some m.cls := hown
  have hl : lv_has ls 2 [(0, .ref (ad 0)), (1, .int p0)] := hl
  unfold wp_X2_makeRoom at hw
  refine lv_aload_n hx hb dX2_makeRoom_0 rfl (lv_at hl 0 rfl) ?_
  refine va_get (D := G) (ci := 2) (v := .ref (ad 1)) (C := RX2) (T := TX2) (N := 6) hx hb hts hiX2 hown hK hP 0 rfl rfl 0 (by decide) (hts (.fieldLink RX2 14 "TreapVersions" "store" "LTreapVersions$Store;") (by decide +kernel)) (fun _ h9 => h9) rfl dX2_makeRoom_1 ?_
  refine lv_iload_n hx hb dX2_makeRoom_4 rfl (lv_at hl 1 rfl) ?_
  refine CtI.call (As := [.int p0]) (rest := []) (c_X0_hasRoom l G ad C V cI cZ p0 u _ hw) ⟨hx, hb, hml, hown, hts⟩ (cwV 1 hts gX2_makeRoom_X0_hasRoom rfl rfl rfl (by decide +kernel) ⟨Nat.le_of_ble_eq_true rfl, Nat.le_of_ble_eq_true rfl⟩) (va_recv hK hP (ci := 0) (q0 := 1) rfl rfl) hK hP hD hS hA rfl hl.1 rfl (Nat.le_of_ble_eq_true rfl) dX2_makeRoom_5 ⟨Nat.zero_le _, Nat.zero_le _⟩ (fun r2 u1 H locs hw hP hD hS => ?_)
  obtain ⟨hz, hw⟩ := hw
  refine lv_if_eq (tgt := 13) hx hb dX2_makeRoom_8 (by decide) (fun c3 => ?_) (fun c3 => ?_)
  · have hw := brN.t hw c3
    refine lv_aload_n hx hb dX2_makeRoom_13 rfl (lv_at hl 0 rfl) ?_
    refine CtI.call (As := []) (rest := []) (c_X2_reachLive l G ad C V cI cZ u1 _ hw) ⟨hx, hb, hml, hown, hts⟩ (cwV 0 hts gX2_makeRoom_X2_reachLive rfl rfl rfl (by decide +kernel) ⟨Nat.le_of_ble_eq_true rfl, Nat.le_of_ble_eq_true rfl⟩) (va_recv hK hP (ci := 2) (q0 := 0) rfl rfl) hK hP hD hS hA rfl hl.1 rfl (Nat.le_of_ble_eq_true rfl) dX2_makeRoom_14 ⟨Nat.zero_le _, Nat.zero_le _⟩ (fun r5 u4 H locs hw hP hD hS => ?_)
    refine lv_pop hx hb dX2_makeRoom_17 rfl ?_
    refine lv_aload_n hx hb dX2_makeRoom_18 rfl (lv_at hl 0 rfl) ?_
    refine va_get (D := G) (ci := 2) (v := .ref (ad 1)) (C := RX2) (T := TX2) (N := 6) hx hb hts hiX2 hown hK hP 0 rfl rfl 0 (by decide) (hts (.fieldLink RX2 14 "TreapVersions" "store" "LTreapVersions$Store;") (by decide +kernel)) (fun _ h9 => h9) rfl dX2_makeRoom_19 ?_
    refine CtV.call (As := []) (rest := []) (c_X0_keepReached l G ad C V cI cZ u4 _ hw) ⟨hx, hb, hml, hown, hts⟩ (cwV 0 hts gX2_makeRoom_X0_keepReached rfl rfl rfl (by decide +kernel) ⟨Nat.le_of_ble_eq_true rfl, Nat.le_of_ble_eq_true rfl⟩) (va_recv hK hP (ci := 0) (q0 := 1) rfl rfl) hK hP hD hS hA rfl hl.1 rfl (Nat.le_of_ble_eq_true rfl) dX2_makeRoom_22 ⟨Nat.zero_le _, Nat.zero_le _⟩ (fun u6 H locs hw hP hD hS => ?_)
    refine lv_aload_n hx hb dX2_makeRoom_25 rfl (lv_at hl 0 rfl) ?_
    refine lv_dup hx hb dX2_makeRoom_26 rfl ?_
    refine va_get (D := G) (ci := 2) (v := .int (u6 15 0)) (C := RX2) (T := TX2) (N := 6) hx hb hts hiX2 hown hK hP 0 rfl rfl 5 (by decide) (hts (.fieldLink RX2 131 "TreapVersions" "sweepCount" "I") (by decide +kernel)) (fun _ h9 => h9) rfl dX2_makeRoom_27 ?_
    refine lv_topi (fun z7 ez7 => ?_)
    have hw := nmI.go hw z7 ez7
    refine lv_iconst (v := 1) hx hb dX2_makeRoom_30 (by decide) ?_
    refine lv_iadd hx hb dX2_makeRoom_31 ?_
    refine lv_topi (fun z8 ez8 => ?_)
    have hw := nmI.go hw z8 ez8
    refine va_put (D := G) (ci := 2) (v := .int z8) (ty := .int) (C := RX2) (T := TX2) (N := 6) hx hb hts hiX2 tyX2 tyX2_ok nmX2 hown hK hP hD hS 0 rfl rfl 5 (by decide) (hts (.fieldLink RX2 131 "TreapVersions" "sweepCount" "I") (by decide +kernel)) (fun _ h9 => h9) rfl (by decide +kernel) rfl rfl (Nat.le_of_ble_eq_true rfl) dX2_makeRoom_32 (fun H locs hP hD hS => ?_)
    obtain ⟨u9, eu9⟩ : ∃ z : CS, z = cset u6 15 (fun _ => z8) := ⟨_, rfl⟩
    have hP : va_P G vwCl (cw ad C V cI cZ (cset u6 15 (fun _ => z8))) H := hP
    have hD : va_D A (cw ad C V cI cZ (cset u6 15 (fun _ => z8))) := hD
    rw [← eu9] at hP hD
    have hw := stF.go hw u9 eu9
    refine lv_aload_n hx hb dX2_makeRoom_35 rfl (lv_at hl 0 rfl) ?_
    refine va_get (D := G) (ci := 2) (v := .ref (ad 1)) (C := RX2) (T := TX2) (N := 6) hx hb hts hiX2 hown hK hP 0 rfl rfl 0 (by decide) (hts (.fieldLink RX2 14 "TreapVersions" "store" "LTreapVersions$Store;") (by decide +kernel)) (fun _ h9 => h9) rfl dX2_makeRoom_36 ?_
    refine lv_iload_n hx hb dX2_makeRoom_39 rfl (lv_at hl 1 rfl) ?_
    refine CtI.call (As := [.int p0]) (rest := []) (c_X0_hasRoom l G ad C V cI cZ p0 u9 _ hw) ⟨hx, hb, hml, hown, hts⟩ (cwV 1 hts gX2_makeRoom_X0_hasRoom rfl rfl rfl (by decide +kernel) ⟨Nat.le_of_ble_eq_true rfl, Nat.le_of_ble_eq_true rfl⟩) (va_recv hK hP (ci := 0) (q0 := 1) rfl rfl) hK hP hD hS hA rfl hl.1 rfl (Nat.le_of_ble_eq_true rfl) dX2_makeRoom_40 ⟨Nat.zero_le _, Nat.zero_le _⟩ (fun r11 u10 H locs hw hP hD hS => ?_)
    obtain ⟨hz, hw⟩ := hw
    exact hret r11 u10 43 _ _ _ dX2_makeRoom_43 (isB_nar hz) ⟨hz, hw⟩ hP hD hS
  · have hw := brN.f hw c3
    refine lv_iconst (v := 1) hx hb dX2_makeRoom_11 (by decide) ?_
    exact hret 1 u1 12 _ _ _ dX2_makeRoom_12 rfl ⟨isB_1, hw⟩ hP hD hS
set_option maxHeartbeats 4000000 in
set_option maxRecDepth 100000 in
theorem c_X2_handleFor (l : Launch) (G : va_G) (ad : Nat → Nat) (C V : Nat) (cI cZ : ClassId) (p0 : Int32) (u : CS) (post : Int32 → CS → Prop) (hw : wp_X2_handleFor C V p0 u post) : CtI l yX2_handleFor wsX2_handleFor ({ frames := 4, cells := 0, slots := 0, locals := 91 }) G (ty2 cI cZ) (cw ad C V cI cZ) [.ref (ad 0), .int p0] u post := by
  refine CtI.of (cc := cX2_handleFor) (maxL := 3) (rt := .int) (by decide) rfl (Nat.le_of_ble_eq_true rfl) ?_
  intro p e s m below meth c A Q hx hb hml hts hown hK hA hret ls hl hP hD hS
  have hiX2 : ∀ w ∈ u_ws RX2 TX2 6, w ∈ wsX2_handleFor := by decide +kernel
  have hown : s.vm.findClass RX2 = some m.cls := hown
  have hl : lv_has ls 3 [(0, .ref (ad 0)), (1, .int p0)] := hl
  have hlp2 : ∀ (n : Nat) (a1 : Int32) (a2 : Int32) (u : CS), lp_X2_handleFor_2 C V post n a1 a2 u → ∀ (H : Heap) (locs : List Loc), va_P G vwCl (cw ad C V cI cZ u) H → va_D A (cw ad C V cI cZ u) → va_S A s.heap H locs → ∀ ls : Array Slot, lv_has ls 3 [(0, .ref (ad 0)), (1, .int a1), (2, .int a2)] → W p l e ({ frames := 4, cells := 0, slots := 0, locals := 91 }) s m ([.ref (ad 0), .int p0] : List Value).toArray below meth c H locs 0 0 Q (F0 m 2 ls []) := by
    clear hw hl hP hD hS
    intro n
    induction n with
    | zero => intro a1 a2 u hw; exact False.elim hw
    | succ n ih =>
      intro a1 a2 u hw H locs hP hD hS ls hl
      unfold lp_X2_handleFor_2 at hw
      refine lv_iload_n hx hb dX2_handleFor_2 rfl (lv_at hl 2 rfl) ?_
      refine lv_aload_n hx hb dX2_handleFor_3 rfl (lv_at hl 0 rfl) ?_
      refine va_get (D := G) (ci := 2) (v := .ref (ad 3)) (C := RX2) (T := TX2) (N := 6) hx hb hts hiX2 hown hK hP 0 rfl rfl 2 (by decide) (hts (.fieldLink RX2 27 "TreapVersions" "live" "[Z") (by decide +kernel)) (fun _ h9 => h9) rfl dX2_handleFor_4 ?_
      refine va_alen hx hb hK hP 3 1 rfl rfl (v := nI V) rfl dX2_handleFor_7 ?_
      refine lv_topi (fun z1 ez1 => ?_)
      have hw := nmI.go hw z1 ez1
      refine lv_icmp_ge (tgt := 41) hx hb dX2_handleFor_8 (by decide) (fun c2 => ?_) (fun c2 => ?_)
      · have hw := brN.t hw c2
        refine lv_bipush (v := (-2)) hx hb dX2_handleFor_41 (by decide) ?_
        exact hret (-2) u 43 _ _ _ dX2_handleFor_43 rfl hw hP hD hS
      · have hw := brN.f hw c2
        refine lv_aload_n hx hb dX2_handleFor_11 rfl (lv_at hl 0 rfl) ?_
        refine va_get (D := G) (ci := 2) (v := .ref (ad 3)) (C := RX2) (T := TX2) (N := 6) hx hb hts hiX2 hown hK hP 0 rfl rfl 2 (by decide) (hts (.fieldLink RX2 27 "TreapVersions" "live" "[Z") (by decide +kernel)) (fun _ h9 => h9) rfl dX2_handleFor_12 ?_
        refine lv_iload_n hx hb dX2_handleFor_15 rfl (lv_at hl 2 rfl) ?_
        refine va_zald hx hb hK hP 3 1 rfl rfl (rdA.hin hw) dX2_handleFor_16 ?_
        refine lv_topi (fun z3 ez3 => ?_)
        have hw := rdA.go hw z3 ez3
        refine lv_if_ne (tgt := 35) hx hb dX2_handleFor_17 (by decide) (fun c4 => ?_) (fun c4 => ?_)
        · have hw := brN.f hw c4
          obtain ⟨z5, ez5⟩ : ∃ y : Int32, y = a2 + 1 := ⟨_, rfl⟩
          have hw := nmI.go hw z5 ez5
          refine lv_iinc (v := z5) (lv' := [(2, .int z5), (0, .ref (ad 0)), (1, .int a1)]) hx hb dX2_handleFor_35 hl (k := 2) rfl (by rw [ez5]; rfl) (by decide) rfl (fun ls hl => ?_)
          refine lv_goto (tgt := 2) hx hb dX2_handleFor_38 (by decide) ?_
          exact ih a1 z5 u hw _ _ hP hD hS _ (lv_sub hl [1, 2, 0] rfl)
        · have hw := brN.t hw c4
          refine lv_aload_n hx hb dX2_handleFor_20 rfl (lv_at hl 0 rfl) ?_
          refine lv_iload_n hx hb dX2_handleFor_21 rfl (lv_at hl 1 rfl) ?_
          refine CtI.call (As := [.int a1]) (rest := []) (c_X2_makeRoom l G ad C V cI cZ a1 u _ hw) ⟨hx, hb, hml, hown, hts⟩ (cwV 1 hts gX2_handleFor_X2_makeRoom rfl rfl rfl (by decide +kernel) ⟨Nat.le_of_ble_eq_true rfl, Nat.le_of_ble_eq_true rfl⟩) (va_recv hK hP (ci := 2) (q0 := 0) rfl rfl) hK hP hD hS hA rfl hl.1 rfl (Nat.le_of_ble_eq_true rfl) dX2_handleFor_22 ⟨Nat.zero_le _, Nat.zero_le _⟩ (fun r7 u6 H locs hw hP hD hS => ?_)
          obtain ⟨hz, hw⟩ := hw
          refine lv_if_eq (tgt := 32) hx hb dX2_handleFor_25 (by decide) (fun c8 => ?_) (fun c8 => ?_)
          · have hw := brN.t hw c8
            refine lv_bipush (v := (-3)) hx hb dX2_handleFor_32 (by decide) ?_
            exact hret (-3) u6 34 _ _ _ dX2_handleFor_34 rfl hw hP hD hS
          · have hw := brN.f hw c8
            refine lv_iload_n hx hb dX2_handleFor_28 rfl (lv_at hl 2 rfl) ?_
            refine lv_goto (tgt := 34) hx hb dX2_handleFor_29 (by decide) ?_
            exact hret a2 u6 34 _ _ _ dX2_handleFor_34 rfl hw hP hD hS
  unfold wp_X2_handleFor at hw
  refine lv_iconst (v := 0) hx hb dX2_handleFor_0 (by decide) ?_
  refine lv_istore_n (lv' := [(2, .int 0), (0, .ref (ad 0)), (1, .int p0)]) hx hb dX2_handleFor_1 rfl hl (by decide) rfl (fun ls hl => ?_)
  obtain ⟨n9, hw⟩ := hw
  exact hlp2 n9 p0 0 u hw _ _ hP hD hS _ (lv_sub hl [1, 2, 0] rfl)
set_option maxHeartbeats 4000000 in
set_option maxRecDepth 100000 in
theorem c_X2_open (l : Launch) (G : va_G) (ad : Nat → Nat) (C V : Nat) (cI cZ : ClassId) (p0 : Int32) (p1 : Int32) (u : CS) (post : Int32 → CS → Prop) (hw : wp_X2_open C V p0 p1 u post) : CtI l yX2_open wsX2_open ({ frames := 0, cells := 0, slots := 0, locals := 0 }) G (ty2 cI cZ) (cw ad C V cI cZ) [.ref (ad 0), .int p0, .int p1] u post := by
  refine CtI.of (cc := cX2_open) (maxL := 3) (rt := .int) (by decide) rfl (Nat.le_of_ble_eq_true rfl) ?_
  intro p e s m below meth c A Q hx hb hml hts hown hK hA hret ls hl hP hD hS
  have hiX2 : ∀ w ∈ u_ws RX2 TX2 6, w ∈ wsX2_open := by decide +kernel
  have hown : s.vm.findClass RX2 = some m.cls := hown
  have hl : lv_has ls 3 [(0, .ref (ad 0)), (1, .int p0), (2, .int p1)] := hl
  unfold wp_X2_open at hw
  refine lv_aload_n hx hb dX2_open_0 rfl (lv_at hl 0 rfl) ?_
  refine va_get (D := G) (ci := 2) (v := .ref (ad 3)) (C := RX2) (T := TX2) (N := 6) hx hb hts hiX2 hown hK hP 0 rfl rfl 2 (by decide) (hts (.fieldLink RX2 27 "TreapVersions" "live" "[Z") (by decide +kernel)) (fun _ h9 => h9) rfl dX2_open_1 ?_
  refine lv_iload_n hx hb dX2_open_4 rfl (lv_at hl 1 rfl) ?_
  refine lv_iconst (v := 1) hx hb dX2_open_5 (by decide) ?_
  refine va_zast hx hb hK hP hD hS 3 1 rfl rfl (wrZ.hin hw) dX2_open_6 (fun H locs hP hD hS => ?_)
  obtain ⟨u1, eu1⟩ : ∃ z : CS, z = cset u 12 (upd (u 12) p0.toNatClampNeg (vp_nar .boolean 1)) := ⟨_, rfl⟩
  have hP : va_P G vwCl (cw ad C V cI cZ (cset u 12 (upd (u 12) p0.toNatClampNeg (vp_nar .boolean 1)))) H := hP
  have hD : va_D A (cw ad C V cI cZ (cset u 12 (upd (u 12) p0.toNatClampNeg (vp_nar .boolean 1)))) := hD
  rw [← eu1] at hP hD
  have hw := wrZ.go hw u1 eu1
  refine lv_aload_n hx hb dX2_open_7 rfl (lv_at hl 0 rfl) ?_
  refine va_get (D := G) (ci := 2) (v := .ref (ad 4)) (C := RX2) (T := TX2) (N := 6) hx hb hts hiX2 hown hK hP 0 rfl rfl 3 (by decide) (hts (.fieldLink RX2 31 "TreapVersions" "roots" "[I") (by decide +kernel)) (fun _ h9 => h9) rfl dX2_open_8 ?_
  refine lv_iload_n hx hb dX2_open_11 rfl (lv_at hl 1 rfl) ?_
  refine lv_iload_n hx hb dX2_open_12 rfl (lv_at hl 2 rfl) ?_
  refine va_iast hx hb hK hP hD hS 4 0 rfl rfl (wrA.hin hw) dX2_open_13 (fun H locs hP hD hS => ?_)
  obtain ⟨u2, eu2⟩ : ∃ z : CS, z = cset u1 13 (upd (u1 13) p0.toNatClampNeg p1) := ⟨_, rfl⟩
  have hP : va_P G vwCl (cw ad C V cI cZ (cset u1 13 (upd (u1 13) p0.toNatClampNeg p1))) H := hP
  have hD : va_D A (cw ad C V cI cZ (cset u1 13 (upd (u1 13) p0.toNatClampNeg p1))) := hD
  rw [← eu2] at hP hD
  have hw := wrA.go hw u2 eu2
  refine lv_iload_n hx hb dX2_open_14 rfl (lv_at hl 1 rfl) ?_
  exact hret p0 u2 15 _ _ _ dX2_open_15 rfl hw hP hD hS
set_option maxHeartbeats 4000000 in
set_option maxRecDepth 100000 in
theorem c_X2_drawWeight (l : Launch) (G : va_G) (ad : Nat → Nat) (C V : Nat) (cI cZ : ClassId) (u : CS) (post : Int32 → CS → Prop) (hw : wp_X2_drawWeight C V u post) : CtI l yX2_drawWeight wsX2_drawWeight ({ frames := 0, cells := 0, slots := 0, locals := 0 }) G (ty2 cI cZ) (cw ad C V cI cZ) [.ref (ad 0)] u post := by
  refine CtI.of (cc := cX2_drawWeight) (maxL := 1) (rt := .int) (by decide) rfl (Nat.le_of_ble_eq_true rfl) ?_
  intro p e s m below meth c A Q hx hb hml hts hown hK hA hret ls hl hP hD hS
  have hiX2 : ∀ w ∈ u_ws RX2 TX2 6, w ∈ wsX2_drawWeight := by decide +kernel
  have hown : s.vm.findClass RX2 = some m.cls := hown
  have hl : lv_has ls 1 [(0, .ref (ad 0))] := hl
  unfold wp_X2_drawWeight at hw
  refine lv_aload_n hx hb dX2_drawWeight_0 rfl (lv_at hl 0 rfl) ?_
  refine lv_aload_n hx hb dX2_drawWeight_1 rfl (lv_at hl 0 rfl) ?_
  refine va_get (D := G) (ci := 2) (v := .int (u 14 0)) (C := RX2) (T := TX2) (N := 6) hx hb hts hiX2 hown hK hP 0 rfl rfl 4 (by decide) (hts (.fieldLink RX2 35 "TreapVersions" "seed" "I") (by decide +kernel)) (fun _ h9 => h9) rfl dX2_drawWeight_2 ?_
  refine lv_topi (fun z1 ez1 => ?_)
  have hw := nmI.go hw z1 ez1
  refine lv_ldc (v := 1103515245) hx hb hown (hts (.constant RX2 143 1103515245) (by decide +kernel)) dX2_drawWeight_5 ?_
  refine lv_imul hx hb dX2_drawWeight_7 ?_
  refine lv_topi (fun z2 ez2 => ?_)
  have hw := nmI.go hw z2 ez2
  refine lv_sipush (v := 12345) hx hb dX2_drawWeight_8 (by decide) ?_
  refine lv_iadd hx hb dX2_drawWeight_11 ?_
  refine lv_topi (fun z3 ez3 => ?_)
  have hw := nmI.go hw z3 ez3
  refine va_put (D := G) (ci := 2) (v := .int z3) (ty := .int) (C := RX2) (T := TX2) (N := 6) hx hb hts hiX2 tyX2 tyX2_ok nmX2 hown hK hP hD hS 0 rfl rfl 4 (by decide) (hts (.fieldLink RX2 35 "TreapVersions" "seed" "I") (by decide +kernel)) (fun _ h9 => h9) rfl (by decide +kernel) rfl rfl (Nat.le_of_ble_eq_true rfl) dX2_drawWeight_12 (fun H locs hP hD hS => ?_)
  obtain ⟨u4, eu4⟩ : ∃ z : CS, z = cset u 14 (fun _ => z3) := ⟨_, rfl⟩
  have hP : va_P G vwCl (cw ad C V cI cZ (cset u 14 (fun _ => z3))) H := hP
  have hD : va_D A (cw ad C V cI cZ (cset u 14 (fun _ => z3))) := hD
  rw [← eu4] at hP hD
  have hw := stF.go hw u4 eu4
  refine lv_aload_n hx hb dX2_drawWeight_15 rfl (lv_at hl 0 rfl) ?_
  refine va_get (D := G) (ci := 2) (v := .int (u4 14 0)) (C := RX2) (T := TX2) (N := 6) hx hb hts hiX2 hown hK hP 0 rfl rfl 4 (by decide) (hts (.fieldLink RX2 35 "TreapVersions" "seed" "I") (by decide +kernel)) (fun _ h9 => h9) rfl dX2_drawWeight_16 ?_
  refine lv_topi (fun z5 ez5 => ?_)
  have hw := nmI.go hw z5 ez5
  refine lv_bipush (v := 16) hx hb dX2_drawWeight_19 (by decide) ?_
  refine lv_iushr hx hb dX2_drawWeight_21 rfl ?_
  refine lv_topi (fun z6 ez6 => ?_)
  have hw := nmI.go hw z6 ez6
  refine lv_bipush (v := 15) hx hb dX2_drawWeight_22 (by decide) ?_
  refine lv_iand hx hb dX2_drawWeight_24 ?_
  refine lv_topi (fun z7 ez7 => ?_)
  have hw := nmI.go hw z7 ez7
  exact hret z7 u4 25 _ _ _ dX2_drawWeight_25 rfl hw hP hD hS
set_option maxHeartbeats 4000000 in
set_option maxRecDepth 100000 in
theorem c_X2_put (l : Launch) (G : va_G) (ad : Nat → Nat) (C V : Nat) (cI cZ : ClassId) (p0 : Int32) (p1 : Int32) (p2 : Int32) (u : CS) (post : Int32 → CS → Prop) (hw : wp_X2_put C V p0 p1 p2 u post) : CtI l yX2_put wsX2_put ({ frames := 5, cells := 0, slots := 0, locals := 113 }) G (ty2 cI cZ) (cw ad C V cI cZ) [.ref (ad 0), .int p0, .int p1, .int p2] u post := by
  refine CtI.of (cc := cX2_put) (maxL := 7) (rt := .int) (by decide) rfl (Nat.le_of_ble_eq_true rfl) ?_
  intro p e s m below meth c A Q hx hb hml hts hown hK hA hret ls hl hP hD hS
  have hiX0 : ∀ w ∈ u_ws RX0 TX0 11, w ∈ wsX2_put := by decide +kernel
  have hiX1 : ∀ w ∈ u_ws RX1 TX1 3, w ∈ wsX2_put := by decide +kernel
  have hiX2 : ∀ w ∈ u_ws RX2 TX2 6, w ∈ wsX2_put := by decide +kernel
  have hown : s.vm.findClass RX2 = some m.cls := hown
  have hl : lv_has ls 7 [(0, .ref (ad 0)), (1, .int p0), (2, .int p1), (3, .int p2)] := hl
  unfold wp_X2_put at hw
  refine lv_aload_n hx hb dX2_put_0 rfl (lv_at hl 0 rfl) ?_
  refine lv_iload_n hx hb dX2_put_1 rfl (lv_at hl 1 rfl) ?_
  refine CtI.call (As := [.int p0]) (rest := []) (c_X2_isLive l G ad C V cI cZ p0 u _ hw) ⟨hx, hb, hml, hown, hts⟩ (cwV 1 hts gX2_put_X2_isLive rfl rfl rfl (by decide +kernel) ⟨Nat.le_of_ble_eq_true rfl, Nat.le_of_ble_eq_true rfl⟩) (va_recv hK hP (ci := 2) (q0 := 0) rfl rfl) hK hP hD hS hA rfl hl.1 rfl (Nat.le_of_ble_eq_true rfl) dX2_put_2 ⟨Nat.zero_le _, Nat.zero_le _⟩ (fun r2 u1 H locs hw hP hD hS => ?_)
  obtain ⟨hz, hw⟩ := hw
  refine lv_if_ne (tgt := 10) hx hb dX2_put_5 (by decide) (fun c3 => ?_) (fun c3 => ?_)
  · have hw := brN.f hw c3
    refine lv_aload_n hx hb dX2_put_10 rfl (lv_at hl 0 rfl) ?_
    refine va_get (D := G) (ci := 2) (v := .ref (ad 2)) (C := RX2) (T := TX2) (N := 6) hx hb hts hiX2 hown hK hP 0 rfl rfl 1 (by decide) (hts (.fieldLink RX2 23 "TreapVersions" "way" "LTreapVersions$Way;") (by decide +kernel)) (fun _ h9 => h9) rfl dX2_put_11 ?_
    refine lv_aload_n hx hb dX2_put_14 rfl (lv_at hl 0 rfl) ?_
    refine va_get (D := G) (ci := 2) (v := .ref (ad 4)) (C := RX2) (T := TX2) (N := 6) hx hb hts hiX2 hown hK hP 0 rfl rfl 3 (by decide) (hts (.fieldLink RX2 31 "TreapVersions" "roots" "[I") (by decide +kernel)) (fun _ h9 => h9) rfl dX2_put_15 ?_
    refine lv_iload_n hx hb dX2_put_18 rfl (lv_at hl 1 rfl) ?_
    refine va_iald hx hb hK hP 4 0 rfl rfl (rdA.hin hw) dX2_put_19 ?_
    refine lv_topi (fun z4 ez4 => ?_)
    have hw := rdA.go hw z4 ez4
    refine lv_iload_n hx hb dX2_put_20 rfl (lv_at hl 2 rfl) ?_
    refine CtI.call (As := [.int z4, .int p1]) (rest := []) (c_X1_noteTo l G ad C V cI cZ z4 p1 u1 _ hw) ⟨hx, hb, hml, hown, hts⟩ (cwV 2 hts gX2_put_X1_noteTo rfl rfl rfl (by decide +kernel) ⟨Nat.le_of_ble_eq_true rfl, Nat.le_of_ble_eq_true rfl⟩) (va_recv hK hP (ci := 1) (q0 := 2) rfl rfl) hK hP hD hS hA rfl hl.1 rfl (Nat.le_of_ble_eq_true rfl) dX2_put_21 ⟨Nat.zero_le _, Nat.zero_le _⟩ (fun r6 u5 H locs hw hP hD hS => ?_)
    refine lv_istore (lv' := [(4, .int r6), (0, .ref (ad 0)), (1, .int p0), (2, .int p1), (3, .int p2)]) hx hb dX2_put_24 hl (by decide) rfl (fun ls hl => ?_)
    refine lv_aload_n hx hb dX2_put_26 rfl (lv_at hl 1 rfl) ?_
    refine lv_aload_n hx hb dX2_put_27 rfl (lv_at hl 1 rfl) ?_
    refine va_get (D := G) (ci := 2) (v := .ref (ad 2)) (C := RX2) (T := TX2) (N := 6) hx hb hts hiX2 hown hK hP 0 rfl rfl 1 (by decide) (hts (.fieldLink RX2 23 "TreapVersions" "way" "LTreapVersions$Way;") (by decide +kernel)) (fun _ h9 => h9) rfl dX2_put_28 ?_
    refine va_get (D := G) (ci := 1) (v := .int (u5 11 0)) (C := RX1) (T := TX1) (N := 3) hx hb hts hiX1 hown hK hP 2 rfl rfl 2 (by decide) (hts (.fieldLink RX2 47 "TreapVersions$Way" "length" "I") (by decide +kernel)) (fun _ h9 => h9) rfl dX2_put_31 ?_
    refine lv_topi (fun z7 ez7 => ?_)
    have hw := nmI.go hw z7 ez7
    refine lv_iconst (v := 1) hx hb dX2_put_34 (by decide) ?_
    refine lv_iadd hx hb dX2_put_35 ?_
    refine lv_topi (fun z8 ez8 => ?_)
    have hw := nmI.go hw z8 ez8
    refine CtI.call (As := [.int z8]) (rest := []) (c_X2_handleFor l G ad C V cI cZ z8 u5 _ hw) ⟨hx, hb, hml, hown, hts⟩ (cwV 1 hts gX2_put_X2_handleFor rfl rfl rfl (by decide +kernel) ⟨Nat.le_of_ble_eq_true rfl, Nat.le_of_ble_eq_true rfl⟩) (va_recv hK hP (ci := 2) (q0 := 0) rfl rfl) hK hP hD hS hA rfl hl.1 rfl (Nat.le_of_ble_eq_true rfl) dX2_put_36 ⟨Nat.zero_le _, Nat.zero_le _⟩ (fun r10 u9 H locs hw hP hD hS => ?_)
    refine lv_istore (lv' := [(5, .int r10), (4, .int r6), (0, .ref (ad 0)), (1, .int p0), (2, .int p1), (3, .int p2)]) hx hb dX2_put_39 hl (by decide) rfl (fun ls hl => ?_)
    refine lv_iload hx hb dX2_put_41 (lv_at hl 0 rfl) ?_
    refine lv_if_ge (tgt := 49) hx hb dX2_put_43 (by decide) (fun c11 => ?_) (fun c11 => ?_)
    · have hw := brN.t hw c11
      refine lv_iload hx hb dX2_put_49 (lv_at hl 1 rfl) ?_
      refine lv_if_ne (tgt := 70) hx hb dX2_put_51 (by decide) (fun c12 => ?_) (fun c12 => ?_)
      · have hw := brN.f hw c12
        refine lv_aload_n hx hb dX2_put_70 rfl (lv_at hl 2 rfl) ?_
        refine va_get (D := G) (ci := 2) (v := .ref (ad 1)) (C := RX2) (T := TX2) (N := 6) hx hb hts hiX2 hown hK hP 0 rfl rfl 0 (by decide) (hts (.fieldLink RX2 14 "TreapVersions" "store" "LTreapVersions$Store;") (by decide +kernel)) (fun _ h9 => h9) rfl dX2_put_71 ?_
        refine lv_iload_n hx hb dX2_put_74 rfl (lv_at hl 4 rfl) ?_
        refine lv_iload_n hx hb dX2_put_75 rfl (lv_at hl 5 rfl) ?_
        refine lv_aload_n hx hb dX2_put_76 rfl (lv_at hl 2 rfl) ?_
        refine va_get (D := G) (ci := 2) (v := .ref (ad 1)) (C := RX2) (T := TX2) (N := 6) hx hb hts hiX2 hown hK hP 0 rfl rfl 0 (by decide) (hts (.fieldLink RX2 14 "TreapVersions" "store" "LTreapVersions$Store;") (by decide +kernel)) (fun _ h9 => h9) rfl dX2_put_77 ?_
        refine va_get (D := G) (ci := 0) (v := .ref (ad 7)) (C := RX0) (T := TX0) (N := 11) hx hb hts hiX0 hown hK hP 1 rfl rfl 3 (by decide) (hts (.fieldLink RX2 62 "TreapVersions$Store" "weight" "[I") (by decide +kernel)) (fun _ h9 => h9) rfl dX2_put_80 ?_
        refine lv_iload hx hb dX2_put_83 (lv_at hl 1 rfl) ?_
        refine va_iald hx hb hK hP 7 0 rfl rfl (rdA.hin hw) dX2_put_85 ?_
        refine lv_topi (fun z13 ez13 => ?_)
        have hw := rdA.go hw z13 ez13
        refine lv_aload_n hx hb dX2_put_86 rfl (lv_at hl 2 rfl) ?_
        refine va_get (D := G) (ci := 2) (v := .ref (ad 1)) (C := RX2) (T := TX2) (N := 6) hx hb hts hiX2 hown hK hP 0 rfl rfl 0 (by decide) (hts (.fieldLink RX2 14 "TreapVersions" "store" "LTreapVersions$Store;") (by decide +kernel)) (fun _ h9 => h9) rfl dX2_put_87 ?_
        refine va_get (D := G) (ci := 0) (v := .ref (ad 8)) (C := RX0) (T := TX0) (N := 11) hx hb hts hiX0 hown hK hP 1 rfl rfl 4 (by decide) (hts (.fieldLink RX2 65 "TreapVersions$Store" "left" "[I") (by decide +kernel)) (fun _ h9 => h9) rfl dX2_put_90 ?_
        refine lv_iload hx hb dX2_put_93 (lv_at hl 1 rfl) ?_
        refine va_iald hx hb hK hP 8 0 rfl rfl (rdA.hin hw) dX2_put_95 ?_
        refine lv_topi (fun z14 ez14 => ?_)
        have hw := rdA.go hw z14 ez14
        refine lv_aload_n hx hb dX2_put_96 rfl (lv_at hl 2 rfl) ?_
        refine va_get (D := G) (ci := 2) (v := .ref (ad 1)) (C := RX2) (T := TX2) (N := 6) hx hb hts hiX2 hown hK hP 0 rfl rfl 0 (by decide) (hts (.fieldLink RX2 14 "TreapVersions" "store" "LTreapVersions$Store;") (by decide +kernel)) (fun _ h9 => h9) rfl dX2_put_97 ?_
        refine va_get (D := G) (ci := 0) (v := .ref (ad 9)) (C := RX0) (T := TX0) (N := 11) hx hb hts hiX0 hown hK hP 1 rfl rfl 5 (by decide) (hts (.fieldLink RX2 68 "TreapVersions$Store" "right" "[I") (by decide +kernel)) (fun _ h9 => h9) rfl dX2_put_100 ?_
        refine lv_iload hx hb dX2_put_103 (lv_at hl 1 rfl) ?_
        refine va_iald hx hb hK hP 9 0 rfl rfl (rdA.hin hw) dX2_put_105 ?_
        refine lv_topi (fun z15 ez15 => ?_)
        have hw := rdA.go hw z15 ez15
        refine CtI.call (As := [.int p1, .int p2, .int z13, .int z14, .int z15]) (rest := []) (c_X0_fresh l G ad C V cI cZ p1 p2 z13 z14 z15 u9 _ hw) ⟨hx, hb, hml, hown, hts⟩ (cwV 5 hts gX2_put_X0_fresh rfl rfl rfl (by decide +kernel) ⟨Nat.le_of_ble_eq_true rfl, Nat.le_of_ble_eq_true rfl⟩) (va_recv hK hP (ci := 0) (q0 := 1) rfl rfl) hK hP hD hS hA rfl hl.1 rfl (Nat.le_of_ble_eq_true rfl) dX2_put_106 ⟨Nat.zero_le _, Nat.zero_le _⟩ (fun r17 u16 H locs hw hP hD hS => ?_)
        refine lv_istore (lv' := [(6, .int r17), (5, .int r10), (4, .int r6), (0, .ref (ad 0)), (1, .int p0), (2, .int p1), (3, .int p2)]) hx hb dX2_put_109 hl (by decide) rfl (fun ls hl => ?_)
        refine lv_aload_n hx hb dX2_put_111 rfl (lv_at hl 3 rfl) ?_
        refine lv_iload hx hb dX2_put_112 (lv_at hl 1 rfl) ?_
        refine lv_aload_n hx hb dX2_put_114 rfl (lv_at hl 3 rfl) ?_
        refine va_get (D := G) (ci := 2) (v := .ref (ad 2)) (C := RX2) (T := TX2) (N := 6) hx hb hts hiX2 hown hK hP 0 rfl rfl 1 (by decide) (hts (.fieldLink RX2 23 "TreapVersions" "way" "LTreapVersions$Way;") (by decide +kernel)) (fun _ h9 => h9) rfl dX2_put_115 ?_
        refine lv_iload hx hb dX2_put_118 (lv_at hl 0 rfl) ?_
        refine lv_iload_n hx hb dX2_put_120 rfl (lv_at hl 5 rfl) ?_
        refine CtI.call (As := [.int r17, .int p1]) (rest := [.int r10, .ref (ad 0)]) (c_X1_copyOver l G ad C V cI cZ r17 p1 u16 _ hw) ⟨hx, hb, hml, hown, hts⟩ (cwV 2 hts gX2_put_X1_copyOver rfl rfl rfl (by decide +kernel) ⟨Nat.le_of_ble_eq_true rfl, Nat.le_of_ble_eq_true rfl⟩) (va_recv hK hP (ci := 1) (q0 := 2) rfl rfl) hK hP hD hS hA rfl hl.1 rfl (Nat.le_of_ble_eq_true rfl) dX2_put_121 ⟨Nat.zero_le _, Nat.zero_le _⟩ (fun r19 u18 H locs hw hP hD hS => ?_)
        refine CtI.call (As := [.int r10, .int r19]) (rest := []) (c_X2_open l G ad C V cI cZ r10 r19 u18 _ hw) ⟨hx, hb, hml, hown, hts⟩ (cwV 2 hts gX2_put_X2_open rfl rfl rfl (by decide +kernel) ⟨Nat.le_of_ble_eq_true rfl, Nat.le_of_ble_eq_true rfl⟩) (va_recv hK hP (ci := 2) (q0 := 0) rfl rfl) hK hP hD hS hA rfl hl.1 rfl (Nat.le_of_ble_eq_true rfl) dX2_put_124 ⟨Nat.zero_le _, Nat.zero_le _⟩ (fun r21 u20 H locs hw hP hD hS => ?_)
        exact hret r21 u20 127 _ _ _ dX2_put_127 rfl hw hP hD hS
      · have hw := brN.t hw c12
        refine lv_aload_n hx hb dX2_put_54 rfl (lv_at hl 2 rfl) ?_
        refine va_get (D := G) (ci := 2) (v := .ref (ad 2)) (C := RX2) (T := TX2) (N := 6) hx hb hts hiX2 hown hK hP 0 rfl rfl 1 (by decide) (hts (.fieldLink RX2 23 "TreapVersions" "way" "LTreapVersions$Way;") (by decide +kernel)) (fun _ h9 => h9) rfl dX2_put_55 ?_
        refine lv_iload_n hx hb dX2_put_58 rfl (lv_at hl 4 rfl) ?_
        refine lv_iload_n hx hb dX2_put_59 rfl (lv_at hl 5 rfl) ?_
        refine lv_aload_n hx hb dX2_put_60 rfl (lv_at hl 2 rfl) ?_
        refine CtI.call (As := []) (rest := [.int p2, .int p1, .ref (ad 2)]) (c_X2_drawWeight l G ad C V cI cZ u9 _ hw) ⟨hx, hb, hml, hown, hts⟩ (cwV 0 hts gX2_put_X2_drawWeight rfl rfl rfl (by decide +kernel) ⟨Nat.le_of_ble_eq_true rfl, Nat.le_of_ble_eq_true rfl⟩) (va_recv hK hP (ci := 2) (q0 := 0) rfl rfl) hK hP hD hS hA rfl hl.1 rfl (Nat.le_of_ble_eq_true rfl) dX2_put_61 ⟨Nat.zero_le _, Nat.zero_le _⟩ (fun r23 u22 H locs hw hP hD hS => ?_)
        refine CtI.call (As := [.int p1, .int p2, .int r23]) (rest := []) (c_X1_placeNew l G ad C V cI cZ p1 p2 r23 u22 _ hw) ⟨hx, hb, hml, hown, hts⟩ (cwV 3 hts gX2_put_X1_placeNew rfl rfl rfl (by decide +kernel) ⟨Nat.le_of_ble_eq_true rfl, Nat.le_of_ble_eq_true rfl⟩) (va_recv hK hP (ci := 1) (q0 := 2) rfl rfl) hK hP hD hS hA rfl hl.1 rfl (Nat.le_of_ble_eq_true rfl) dX2_put_64 ⟨Nat.zero_le _, Nat.zero_le _⟩ (fun r25 u24 H locs hw hP hD hS => ?_)
        refine lv_goto (tgt := 109) hx hb dX2_put_67 (by decide) ?_
        refine lv_istore (lv' := [(6, .int r25), (5, .int r10), (4, .int r6), (0, .ref (ad 0)), (1, .int p0), (2, .int p1), (3, .int p2)]) hx hb dX2_put_109 hl (by decide) rfl (fun ls hl => ?_)
        refine lv_aload_n hx hb dX2_put_111 rfl (lv_at hl 3 rfl) ?_
        refine lv_iload hx hb dX2_put_112 (lv_at hl 1 rfl) ?_
        refine lv_aload_n hx hb dX2_put_114 rfl (lv_at hl 3 rfl) ?_
        refine va_get (D := G) (ci := 2) (v := .ref (ad 2)) (C := RX2) (T := TX2) (N := 6) hx hb hts hiX2 hown hK hP 0 rfl rfl 1 (by decide) (hts (.fieldLink RX2 23 "TreapVersions" "way" "LTreapVersions$Way;") (by decide +kernel)) (fun _ h9 => h9) rfl dX2_put_115 ?_
        refine lv_iload hx hb dX2_put_118 (lv_at hl 0 rfl) ?_
        refine lv_iload_n hx hb dX2_put_120 rfl (lv_at hl 5 rfl) ?_
        refine CtI.call (As := [.int r25, .int p1]) (rest := [.int r10, .ref (ad 0)]) (c_X1_copyOver l G ad C V cI cZ r25 p1 u24 _ hw) ⟨hx, hb, hml, hown, hts⟩ (cwV 2 hts gX2_put_X1_copyOver rfl rfl rfl (by decide +kernel) ⟨Nat.le_of_ble_eq_true rfl, Nat.le_of_ble_eq_true rfl⟩) (va_recv hK hP (ci := 1) (q0 := 2) rfl rfl) hK hP hD hS hA rfl hl.1 rfl (Nat.le_of_ble_eq_true rfl) dX2_put_121 ⟨Nat.zero_le _, Nat.zero_le _⟩ (fun r27 u26 H locs hw hP hD hS => ?_)
        refine CtI.call (As := [.int r10, .int r27]) (rest := []) (c_X2_open l G ad C V cI cZ r10 r27 u26 _ hw) ⟨hx, hb, hml, hown, hts⟩ (cwV 2 hts gX2_put_X2_open rfl rfl rfl (by decide +kernel) ⟨Nat.le_of_ble_eq_true rfl, Nat.le_of_ble_eq_true rfl⟩) (va_recv hK hP (ci := 2) (q0 := 0) rfl rfl) hK hP hD hS hA rfl hl.1 rfl (Nat.le_of_ble_eq_true rfl) dX2_put_124 ⟨Nat.zero_le _, Nat.zero_le _⟩ (fun r29 u28 H locs hw hP hD hS => ?_)
        exact hret r29 u28 127 _ _ _ dX2_put_127 rfl hw hP hD hS
    · have hw := brN.f hw c11
      refine lv_iload hx hb dX2_put_46 (lv_at hl 0 rfl) ?_
      exact hret r10 u9 48 _ _ _ dX2_put_48 rfl hw hP hD hS
  · have hw := brN.t hw c3
    refine lv_iconst (v := (-1)) hx hb dX2_put_8 (by decide) ?_
    exact hret (-1) u1 9 _ _ _ dX2_put_9 rfl hw hP hD hS
set_option maxHeartbeats 4000000 in
set_option maxRecDepth 100000 in
theorem c_X2_remove (l : Launch) (G : va_G) (ad : Nat → Nat) (C V : Nat) (cI cZ : ClassId) (p0 : Int32) (p1 : Int32) (u : CS) (post : Int32 → CS → Prop) (hw : wp_X2_remove C V p0 p1 u post) : CtI l yX2_remove wsX2_remove ({ frames := 5, cells := 0, slots := 0, locals := 113 }) G (ty2 cI cZ) (cw ad C V cI cZ) [.ref (ad 0), .int p0, .int p1] u post := by
  refine CtI.of (cc := cX2_remove) (maxL := 5) (rt := .int) (by decide) rfl (Nat.le_of_ble_eq_true rfl) ?_
  intro p e s m below meth c A Q hx hb hml hts hown hK hA hret ls hl hP hD hS
  have hiX1 : ∀ w ∈ u_ws RX1 TX1 3, w ∈ wsX2_remove := by decide +kernel
  have hiX2 : ∀ w ∈ u_ws RX2 TX2 6, w ∈ wsX2_remove := by decide +kernel
  have hown : s.vm.findClass RX2 = some m.cls := hown
  have hl : lv_has ls 5 [(0, .ref (ad 0)), (1, .int p0), (2, .int p1)] := hl
  unfold wp_X2_remove at hw
  refine lv_aload_n hx hb dX2_remove_0 rfl (lv_at hl 0 rfl) ?_
  refine lv_iload_n hx hb dX2_remove_1 rfl (lv_at hl 1 rfl) ?_
  refine CtI.call (As := [.int p0]) (rest := []) (c_X2_isLive l G ad C V cI cZ p0 u _ hw) ⟨hx, hb, hml, hown, hts⟩ (cwV 1 hts gX2_remove_X2_isLive rfl rfl rfl (by decide +kernel) ⟨Nat.le_of_ble_eq_true rfl, Nat.le_of_ble_eq_true rfl⟩) (va_recv hK hP (ci := 2) (q0 := 0) rfl rfl) hK hP hD hS hA rfl hl.1 rfl (Nat.le_of_ble_eq_true rfl) dX2_remove_2 ⟨Nat.zero_le _, Nat.zero_le _⟩ (fun r2 u1 H locs hw hP hD hS => ?_)
  obtain ⟨hz, hw⟩ := hw
  refine lv_if_ne (tgt := 10) hx hb dX2_remove_5 (by decide) (fun c3 => ?_) (fun c3 => ?_)
  · have hw := brN.f hw c3
    refine lv_aload_n hx hb dX2_remove_10 rfl (lv_at hl 0 rfl) ?_
    refine va_get (D := G) (ci := 2) (v := .ref (ad 2)) (C := RX2) (T := TX2) (N := 6) hx hb hts hiX2 hown hK hP 0 rfl rfl 1 (by decide) (hts (.fieldLink RX2 23 "TreapVersions" "way" "LTreapVersions$Way;") (by decide +kernel)) (fun _ h9 => h9) rfl dX2_remove_11 ?_
    refine lv_aload_n hx hb dX2_remove_14 rfl (lv_at hl 0 rfl) ?_
    refine va_get (D := G) (ci := 2) (v := .ref (ad 4)) (C := RX2) (T := TX2) (N := 6) hx hb hts hiX2 hown hK hP 0 rfl rfl 3 (by decide) (hts (.fieldLink RX2 31 "TreapVersions" "roots" "[I") (by decide +kernel)) (fun _ h9 => h9) rfl dX2_remove_15 ?_
    refine lv_iload_n hx hb dX2_remove_18 rfl (lv_at hl 1 rfl) ?_
    refine va_iald hx hb hK hP 4 0 rfl rfl (rdA.hin hw) dX2_remove_19 ?_
    refine lv_topi (fun z4 ez4 => ?_)
    have hw := rdA.go hw z4 ez4
    refine lv_iload_n hx hb dX2_remove_20 rfl (lv_at hl 2 rfl) ?_
    refine CtI.call (As := [.int z4, .int p1]) (rest := []) (c_X1_noteRemoval l G ad C V cI cZ z4 p1 u1 _ hw) ⟨hx, hb, hml, hown, hts⟩ (cwV 2 hts gX2_remove_X1_noteRemoval rfl rfl rfl (by decide +kernel) ⟨Nat.le_of_ble_eq_true rfl, Nat.le_of_ble_eq_true rfl⟩) (va_recv hK hP (ci := 1) (q0 := 2) rfl rfl) hK hP hD hS hA rfl hl.1 rfl (Nat.le_of_ble_eq_true rfl) dX2_remove_21 ⟨Nat.zero_le _, Nat.zero_le _⟩ (fun r6 u5 H locs hw hP hD hS => ?_)
    refine lv_istore_n (lv' := [(3, .int r6), (0, .ref (ad 0)), (1, .int p0), (2, .int p1)]) hx hb dX2_remove_24 rfl hl (by decide) rfl (fun ls hl => ?_)
    refine lv_aload_n hx hb dX2_remove_25 rfl (lv_at hl 1 rfl) ?_
    refine lv_aload_n hx hb dX2_remove_26 rfl (lv_at hl 1 rfl) ?_
    refine va_get (D := G) (ci := 2) (v := .ref (ad 2)) (C := RX2) (T := TX2) (N := 6) hx hb hts hiX2 hown hK hP 0 rfl rfl 1 (by decide) (hts (.fieldLink RX2 23 "TreapVersions" "way" "LTreapVersions$Way;") (by decide +kernel)) (fun _ h9 => h9) rfl dX2_remove_27 ?_
    refine va_get (D := G) (ci := 1) (v := .int (u5 11 0)) (C := RX1) (T := TX1) (N := 3) hx hb hts hiX1 hown hK hP 2 rfl rfl 2 (by decide) (hts (.fieldLink RX2 47 "TreapVersions$Way" "length" "I") (by decide +kernel)) (fun _ h9 => h9) rfl dX2_remove_30 ?_
    refine lv_topi (fun z7 ez7 => ?_)
    have hw := nmI.go hw z7 ez7
    refine CtI.call (As := [.int z7]) (rest := []) (c_X2_handleFor l G ad C V cI cZ z7 u5 _ hw) ⟨hx, hb, hml, hown, hts⟩ (cwV 1 hts gX2_remove_X2_handleFor rfl rfl rfl (by decide +kernel) ⟨Nat.le_of_ble_eq_true rfl, Nat.le_of_ble_eq_true rfl⟩) (va_recv hK hP (ci := 2) (q0 := 0) rfl rfl) hK hP hD hS hA rfl hl.1 rfl (Nat.le_of_ble_eq_true rfl) dX2_remove_33 ⟨Nat.zero_le _, Nat.zero_le _⟩ (fun r9 u8 H locs hw hP hD hS => ?_)
    refine lv_istore (lv' := [(4, .int r9), (3, .int r6), (0, .ref (ad 0)), (1, .int p0), (2, .int p1)]) hx hb dX2_remove_36 hl (by decide) rfl (fun ls hl => ?_)
    refine lv_iload hx hb dX2_remove_38 (lv_at hl 0 rfl) ?_
    refine lv_if_ge (tgt := 48) hx hb dX2_remove_40 (by decide) (fun c10 => ?_) (fun c10 => ?_)
    · have hw := brN.t hw c10
      refine lv_aload_n hx hb dX2_remove_48 rfl (lv_at hl 2 rfl) ?_
      refine lv_iload hx hb dX2_remove_49 (lv_at hl 0 rfl) ?_
      refine lv_aload_n hx hb dX2_remove_51 rfl (lv_at hl 2 rfl) ?_
      refine va_get (D := G) (ci := 2) (v := .ref (ad 2)) (C := RX2) (T := TX2) (N := 6) hx hb hts hiX2 hown hK hP 0 rfl rfl 1 (by decide) (hts (.fieldLink RX2 23 "TreapVersions" "way" "LTreapVersions$Way;") (by decide +kernel)) (fun _ h9 => h9) rfl dX2_remove_52 ?_
      refine lv_iload_n hx hb dX2_remove_55 rfl (lv_at hl 1 rfl) ?_
      refine lv_iload_n hx hb dX2_remove_56 rfl (lv_at hl 4 rfl) ?_
      refine CtI.call (As := [.int r6, .int p1]) (rest := [.int r9, .ref (ad 0)]) (c_X1_copyOver l G ad C V cI cZ r6 p1 u8 _ hw) ⟨hx, hb, hml, hown, hts⟩ (cwV 2 hts gX2_remove_X1_copyOver rfl rfl rfl (by decide +kernel) ⟨Nat.le_of_ble_eq_true rfl, Nat.le_of_ble_eq_true rfl⟩) (va_recv hK hP (ci := 1) (q0 := 2) rfl rfl) hK hP hD hS hA rfl hl.1 rfl (Nat.le_of_ble_eq_true rfl) dX2_remove_57 ⟨Nat.zero_le _, Nat.zero_le _⟩ (fun r12 u11 H locs hw hP hD hS => ?_)
      refine CtI.call (As := [.int r9, .int r12]) (rest := []) (c_X2_open l G ad C V cI cZ r9 r12 u11 _ hw) ⟨hx, hb, hml, hown, hts⟩ (cwV 2 hts gX2_remove_X2_open rfl rfl rfl (by decide +kernel) ⟨Nat.le_of_ble_eq_true rfl, Nat.le_of_ble_eq_true rfl⟩) (va_recv hK hP (ci := 2) (q0 := 0) rfl rfl) hK hP hD hS hA rfl hl.1 rfl (Nat.le_of_ble_eq_true rfl) dX2_remove_60 ⟨Nat.zero_le _, Nat.zero_le _⟩ (fun r14 u13 H locs hw hP hD hS => ?_)
      exact hret r14 u13 63 _ _ _ dX2_remove_63 rfl hw hP hD hS
    · have hw := brN.f hw c10
      refine lv_iload hx hb dX2_remove_43 (lv_at hl 0 rfl) ?_
      refine lv_goto (tgt := 63) hx hb dX2_remove_45 (by decide) ?_
      exact hret r9 u8 63 _ _ _ dX2_remove_63 rfl hw hP hD hS
  · have hw := brN.t hw c3
    refine lv_iconst (v := (-1)) hx hb dX2_remove_8 (by decide) ?_
    exact hret (-1) u1 9 _ _ _ dX2_remove_9 rfl hw hP hD hS
set_option maxHeartbeats 4000000 in
set_option maxRecDepth 100000 in
theorem c_X2_below (l : Launch) (G : va_G) (ad : Nat → Nat) (C V : Nat) (cI cZ : ClassId) (p0 : Int32) (p1 : Int32) (u : CS) (post : Int32 → CS → Prop) (hw : wp_X2_below C V p0 p1 u post) : CtI l yX2_below wsX2_below ({ frames := 5, cells := 0, slots := 0, locals := 113 }) G (ty2 cI cZ) (cw ad C V cI cZ) [.ref (ad 0), .int p0, .int p1] u post := by
  refine CtI.of (cc := cX2_below) (maxL := 4) (rt := .int) (by decide) rfl (Nat.le_of_ble_eq_true rfl) ?_
  intro p e s m below meth c A Q hx hb hml hts hown hK hA hret ls hl hP hD hS
  have hiX1 : ∀ w ∈ u_ws RX1 TX1 3, w ∈ wsX2_below := by decide +kernel
  have hiX2 : ∀ w ∈ u_ws RX2 TX2 6, w ∈ wsX2_below := by decide +kernel
  have hown : s.vm.findClass RX2 = some m.cls := hown
  have hl : lv_has ls 4 [(0, .ref (ad 0)), (1, .int p0), (2, .int p1)] := hl
  unfold wp_X2_below at hw
  refine lv_aload_n hx hb dX2_below_0 rfl (lv_at hl 0 rfl) ?_
  refine lv_iload_n hx hb dX2_below_1 rfl (lv_at hl 1 rfl) ?_
  refine CtI.call (As := [.int p0]) (rest := []) (c_X2_isLive l G ad C V cI cZ p0 u _ hw) ⟨hx, hb, hml, hown, hts⟩ (cwV 1 hts gX2_below_X2_isLive rfl rfl rfl (by decide +kernel) ⟨Nat.le_of_ble_eq_true rfl, Nat.le_of_ble_eq_true rfl⟩) (va_recv hK hP (ci := 2) (q0 := 0) rfl rfl) hK hP hD hS hA rfl hl.1 rfl (Nat.le_of_ble_eq_true rfl) dX2_below_2 ⟨Nat.zero_le _, Nat.zero_le _⟩ (fun r2 u1 H locs hw hP hD hS => ?_)
  obtain ⟨hz, hw⟩ := hw
  refine lv_if_ne (tgt := 10) hx hb dX2_below_5 (by decide) (fun c3 => ?_) (fun c3 => ?_)
  · have hw := brN.f hw c3
    refine lv_aload_n hx hb dX2_below_10 rfl (lv_at hl 0 rfl) ?_
    refine va_get (D := G) (ci := 2) (v := .ref (ad 2)) (C := RX2) (T := TX2) (N := 6) hx hb hts hiX2 hown hK hP 0 rfl rfl 1 (by decide) (hts (.fieldLink RX2 23 "TreapVersions" "way" "LTreapVersions$Way;") (by decide +kernel)) (fun _ h9 => h9) rfl dX2_below_11 ?_
    refine lv_aload_n hx hb dX2_below_14 rfl (lv_at hl 0 rfl) ?_
    refine va_get (D := G) (ci := 2) (v := .ref (ad 4)) (C := RX2) (T := TX2) (N := 6) hx hb hts hiX2 hown hK hP 0 rfl rfl 3 (by decide) (hts (.fieldLink RX2 31 "TreapVersions" "roots" "[I") (by decide +kernel)) (fun _ h9 => h9) rfl dX2_below_15 ?_
    refine lv_iload_n hx hb dX2_below_18 rfl (lv_at hl 1 rfl) ?_
    refine va_iald hx hb hK hP 4 0 rfl rfl (rdA.hin hw) dX2_below_19 ?_
    refine lv_topi (fun z4 ez4 => ?_)
    have hw := rdA.go hw z4 ez4
    refine lv_iload_n hx hb dX2_below_20 rfl (lv_at hl 2 rfl) ?_
    refine CtV.call (As := [.int z4, .int p1]) (rest := []) (c_X1_noteLesser l G ad C V cI cZ z4 p1 u1 _ hw) ⟨hx, hb, hml, hown, hts⟩ (cwV 2 hts gX2_below_X1_noteLesser rfl rfl rfl (by decide +kernel) ⟨Nat.le_of_ble_eq_true rfl, Nat.le_of_ble_eq_true rfl⟩) (va_recv hK hP (ci := 1) (q0 := 2) rfl rfl) hK hP hD hS hA rfl hl.1 rfl (Nat.le_of_ble_eq_true rfl) dX2_below_21 ⟨Nat.zero_le _, Nat.zero_le _⟩ (fun u5 H locs hw hP hD hS => ?_)
    refine lv_aload_n hx hb dX2_below_24 rfl (lv_at hl 0 rfl) ?_
    refine lv_aload_n hx hb dX2_below_25 rfl (lv_at hl 0 rfl) ?_
    refine va_get (D := G) (ci := 2) (v := .ref (ad 2)) (C := RX2) (T := TX2) (N := 6) hx hb hts hiX2 hown hK hP 0 rfl rfl 1 (by decide) (hts (.fieldLink RX2 23 "TreapVersions" "way" "LTreapVersions$Way;") (by decide +kernel)) (fun _ h9 => h9) rfl dX2_below_26 ?_
    refine va_get (D := G) (ci := 1) (v := .int (u5 11 0)) (C := RX1) (T := TX1) (N := 3) hx hb hts hiX1 hown hK hP 2 rfl rfl 2 (by decide) (hts (.fieldLink RX2 47 "TreapVersions$Way" "length" "I") (by decide +kernel)) (fun _ h9 => h9) rfl dX2_below_29 ?_
    refine lv_topi (fun z6 ez6 => ?_)
    have hw := nmI.go hw z6 ez6
    refine CtI.call (As := [.int z6]) (rest := []) (c_X2_handleFor l G ad C V cI cZ z6 u5 _ hw) ⟨hx, hb, hml, hown, hts⟩ (cwV 1 hts gX2_below_X2_handleFor rfl rfl rfl (by decide +kernel) ⟨Nat.le_of_ble_eq_true rfl, Nat.le_of_ble_eq_true rfl⟩) (va_recv hK hP (ci := 2) (q0 := 0) rfl rfl) hK hP hD hS hA rfl hl.1 rfl (Nat.le_of_ble_eq_true rfl) dX2_below_32 ⟨Nat.zero_le _, Nat.zero_le _⟩ (fun r8 u7 H locs hw hP hD hS => ?_)
    refine lv_istore_n (lv' := [(3, .int r8), (0, .ref (ad 0)), (1, .int p0), (2, .int p1)]) hx hb dX2_below_35 rfl hl (by decide) rfl (fun ls hl => ?_)
    refine lv_iload_n hx hb dX2_below_36 rfl (lv_at hl 0 rfl) ?_
    refine lv_if_ge (tgt := 44) hx hb dX2_below_37 (by decide) (fun c9 => ?_) (fun c9 => ?_)
    · have hw := brN.t hw c9
      refine lv_aload_n hx hb dX2_below_44 rfl (lv_at hl 1 rfl) ?_
      refine lv_iload_n hx hb dX2_below_45 rfl (lv_at hl 0 rfl) ?_
      refine lv_aload_n hx hb dX2_below_46 rfl (lv_at hl 1 rfl) ?_
      refine va_get (D := G) (ci := 2) (v := .ref (ad 2)) (C := RX2) (T := TX2) (N := 6) hx hb hts hiX2 hown hK hP 0 rfl rfl 1 (by decide) (hts (.fieldLink RX2 23 "TreapVersions" "way" "LTreapVersions$Way;") (by decide +kernel)) (fun _ h9 => h9) rfl dX2_below_47 ?_
      refine lv_iconst (v := 0) hx hb dX2_below_50 (by decide) ?_
      refine lv_iload_n hx hb dX2_below_51 rfl (lv_at hl 3 rfl) ?_
      refine CtI.call (As := [.int 0, .int p1]) (rest := [.int r8, .ref (ad 0)]) (c_X1_copyOver l G ad C V cI cZ 0 p1 u7 _ hw) ⟨hx, hb, hml, hown, hts⟩ (cwV 2 hts gX2_below_X1_copyOver rfl rfl rfl (by decide +kernel) ⟨Nat.le_of_ble_eq_true rfl, Nat.le_of_ble_eq_true rfl⟩) (va_recv hK hP (ci := 1) (q0 := 2) rfl rfl) hK hP hD hS hA rfl hl.1 rfl (Nat.le_of_ble_eq_true rfl) dX2_below_52 ⟨Nat.zero_le _, Nat.zero_le _⟩ (fun r11 u10 H locs hw hP hD hS => ?_)
      refine CtI.call (As := [.int r8, .int r11]) (rest := []) (c_X2_open l G ad C V cI cZ r8 r11 u10 _ hw) ⟨hx, hb, hml, hown, hts⟩ (cwV 2 hts gX2_below_X2_open rfl rfl rfl (by decide +kernel) ⟨Nat.le_of_ble_eq_true rfl, Nat.le_of_ble_eq_true rfl⟩) (va_recv hK hP (ci := 2) (q0 := 0) rfl rfl) hK hP hD hS hA rfl hl.1 rfl (Nat.le_of_ble_eq_true rfl) dX2_below_55 ⟨Nat.zero_le _, Nat.zero_le _⟩ (fun r13 u12 H locs hw hP hD hS => ?_)
      exact hret r13 u12 58 _ _ _ dX2_below_58 rfl hw hP hD hS
    · have hw := brN.f hw c9
      refine lv_iload_n hx hb dX2_below_40 rfl (lv_at hl 0 rfl) ?_
      refine lv_goto (tgt := 58) hx hb dX2_below_41 (by decide) ?_
      exact hret r8 u7 58 _ _ _ dX2_below_58 rfl hw hP hD hS
  · have hw := brN.t hw c3
    refine lv_iconst (v := (-1)) hx hb dX2_below_8 (by decide) ?_
    exact hret (-1) u1 9 _ _ _ dX2_below_9 rfl hw hP hD hS
set_option maxHeartbeats 4000000 in
set_option maxRecDepth 100000 in
theorem c_X2_join (l : Launch) (G : va_G) (ad : Nat → Nat) (C V : Nat) (cI cZ : ClassId) (p0 : Int32) (p1 : Int32) (u : CS) (post : Int32 → CS → Prop) (hw : wp_X2_join C V p0 p1 u post) : CtI l yX2_join wsX2_join ({ frames := 5, cells := 0, slots := 0, locals := 113 }) G (ty2 cI cZ) (cw ad C V cI cZ) [.ref (ad 0), .int p0, .int p1] u post := by
  refine CtI.of (cc := cX2_join) (maxL := 9) (rt := .int) (by decide) rfl (Nat.le_of_ble_eq_true rfl) ?_
  intro p e s m below meth c A Q hx hb hml hts hown hK hA hret ls hl hP hD hS
  have hiX0 : ∀ w ∈ u_ws RX0 TX0 11, w ∈ wsX2_join := by decide +kernel
  have hiX1 : ∀ w ∈ u_ws RX1 TX1 3, w ∈ wsX2_join := by decide +kernel
  have hiX2 : ∀ w ∈ u_ws RX2 TX2 6, w ∈ wsX2_join := by decide +kernel
  have hown : s.vm.findClass RX2 = some m.cls := hown
  have hl : lv_has ls 9 [(0, .ref (ad 0)), (1, .int p0), (2, .int p1)] := hl
  unfold wp_X2_join at hw
  refine lv_aload_n hx hb dX2_join_0 rfl (lv_at hl 0 rfl) ?_
  refine lv_iload_n hx hb dX2_join_1 rfl (lv_at hl 1 rfl) ?_
  refine CtI.call (As := [.int p0]) (rest := []) (c_X2_isLive l G ad C V cI cZ p0 u _ hw) ⟨hx, hb, hml, hown, hts⟩ (cwV 1 hts gX2_join_X2_isLive rfl rfl rfl (by decide +kernel) ⟨Nat.le_of_ble_eq_true rfl, Nat.le_of_ble_eq_true rfl⟩) (va_recv hK hP (ci := 2) (q0 := 0) rfl rfl) hK hP hD hS hA rfl hl.1 rfl (Nat.le_of_ble_eq_true rfl) dX2_join_2 ⟨Nat.zero_le _, Nat.zero_le _⟩ (fun r2 u1 H locs hw hP hD hS => ?_)
  obtain ⟨hz, hw⟩ := hw
  refine lv_if_eq (tgt := 16) hx hb dX2_join_5 (by decide) (fun c3 => ?_) (fun c3 => ?_)
  · have hw := brN.t hw c3
    refine lv_iconst (v := (-1)) hx hb dX2_join_16 (by decide) ?_
    exact hret (-1) u1 17 _ _ _ dX2_join_17 rfl hw hP hD hS
  · have hw := brN.f hw c3
    refine lv_aload_n hx hb dX2_join_8 rfl (lv_at hl 0 rfl) ?_
    refine lv_iload_n hx hb dX2_join_9 rfl (lv_at hl 2 rfl) ?_
    refine CtI.call (As := [.int p1]) (rest := []) (c_X2_isLive l G ad C V cI cZ p1 u1 _ hw) ⟨hx, hb, hml, hown, hts⟩ (cwV 1 hts gX2_join_X2_isLive rfl rfl rfl (by decide +kernel) ⟨Nat.le_of_ble_eq_true rfl, Nat.le_of_ble_eq_true rfl⟩) (va_recv hK hP (ci := 2) (q0 := 0) rfl rfl) hK hP hD hS hA rfl hl.1 rfl (Nat.le_of_ble_eq_true rfl) dX2_join_10 ⟨Nat.zero_le _, Nat.zero_le _⟩ (fun r5 u4 H locs hw hP hD hS => ?_)
    obtain ⟨hz, hw⟩ := hw
    refine lv_if_ne (tgt := 18) hx hb dX2_join_13 (by decide) (fun c6 => ?_) (fun c6 => ?_)
    · have hw := brN.f hw c6
      refine lv_aload_n hx hb dX2_join_18 rfl (lv_at hl 0 rfl) ?_
      refine va_get (D := G) (ci := 2) (v := .ref (ad 4)) (C := RX2) (T := TX2) (N := 6) hx hb hts hiX2 hown hK hP 0 rfl rfl 3 (by decide) (hts (.fieldLink RX2 31 "TreapVersions" "roots" "[I") (by decide +kernel)) (fun _ h9 => h9) rfl dX2_join_19 ?_
      refine lv_iload_n hx hb dX2_join_22 rfl (lv_at hl 1 rfl) ?_
      refine va_iald hx hb hK hP 4 0 rfl rfl (rdA.hin hw) dX2_join_23 ?_
      refine lv_topi (fun z7 ez7 => ?_)
      have hw := rdA.go hw z7 ez7
      refine lv_istore_n (lv' := [(3, .int z7), (0, .ref (ad 0)), (1, .int p0), (2, .int p1)]) hx hb dX2_join_24 rfl hl (by decide) rfl (fun ls hl => ?_)
      refine lv_aload_n hx hb dX2_join_25 rfl (lv_at hl 1 rfl) ?_
      refine va_get (D := G) (ci := 2) (v := .ref (ad 4)) (C := RX2) (T := TX2) (N := 6) hx hb hts hiX2 hown hK hP 0 rfl rfl 3 (by decide) (hts (.fieldLink RX2 31 "TreapVersions" "roots" "[I") (by decide +kernel)) (fun _ h9 => h9) rfl dX2_join_26 ?_
      refine lv_iload_n hx hb dX2_join_29 rfl (lv_at hl 3 rfl) ?_
      refine va_iald hx hb hK hP 4 0 rfl rfl (rdA.hin hw) dX2_join_30 ?_
      refine lv_topi (fun z8 ez8 => ?_)
      have hw := rdA.go hw z8 ez8
      refine lv_istore (lv' := [(4, .int z8), (3, .int z7), (0, .ref (ad 0)), (1, .int p0), (2, .int p1)]) hx hb dX2_join_31 hl (by decide) rfl (fun ls hl => ?_)
      refine lv_aload_n hx hb dX2_join_33 rfl (lv_at hl 2 rfl) ?_
      refine va_get (D := G) (ci := 2) (v := .ref (ad 1)) (C := RX2) (T := TX2) (N := 6) hx hb hts hiX2 hown hK hP 0 rfl rfl 0 (by decide) (hts (.fieldLink RX2 14 "TreapVersions" "store" "LTreapVersions$Store;") (by decide +kernel)) (fun _ h9 => h9) rfl dX2_join_34 ?_
      refine lv_iload_n hx hb dX2_join_37 rfl (lv_at hl 1 rfl) ?_
      refine lv_aload_n hx hb dX2_join_38 rfl (lv_at hl 2 rfl) ?_
      refine va_get (D := G) (ci := 2) (v := .ref (ad 1)) (C := RX2) (T := TX2) (N := 6) hx hb hts hiX2 hown hK hP 0 rfl rfl 0 (by decide) (hts (.fieldLink RX2 14 "TreapVersions" "store" "LTreapVersions$Store;") (by decide +kernel)) (fun _ h9 => h9) rfl dX2_join_39 ?_
      refine va_get (D := G) (ci := 0) (v := .ref (ad 10)) (C := RX0) (T := TX0) (N := 11) hx hb hts hiX0 hown hK hP 1 rfl rfl 6 (by decide) (hts (.fieldLink RX2 88 "TreapVersions$Store" "count" "[I") (by decide +kernel)) (fun _ h9 => h9) rfl dX2_join_42 ?_
      refine lv_iload_n hx hb dX2_join_45 rfl (lv_at hl 1 rfl) ?_
      refine va_iald hx hb hK hP 10 0 rfl rfl (rdA.hin hw) dX2_join_46 ?_
      refine lv_topi (fun z9 ez9 => ?_)
      have hw := rdA.go hw z9 ez9
      refine lv_iconst (v := 1) hx hb dX2_join_47 (by decide) ?_
      refine lv_isub hx hb dX2_join_48 ?_
      refine lv_topi (fun z10 ez10 => ?_)
      have hw := nmI.go hw z10 ez10
      refine CtI.call (As := [.int z7, .int z10]) (rest := []) (c_X0_nodeAt l G ad C V cI cZ z7 z10 u4 _ hw) ⟨hx, hb, hml, hown, hts⟩ (cwV 2 hts gX2_join_X0_nodeAt rfl rfl rfl (by decide +kernel) ⟨Nat.le_of_ble_eq_true rfl, Nat.le_of_ble_eq_true rfl⟩) (va_recv hK hP (ci := 0) (q0 := 1) rfl rfl) hK hP hD hS hA rfl hl.1 rfl (Nat.le_of_ble_eq_true rfl) dX2_join_49 ⟨Nat.zero_le _, Nat.zero_le _⟩ (fun r12 u11 H locs hw hP hD hS => ?_)
      refine lv_istore (lv' := [(5, .int r12), (4, .int z8), (3, .int z7), (0, .ref (ad 0)), (1, .int p0), (2, .int p1)]) hx hb dX2_join_52 hl (by decide) rfl (fun ls hl => ?_)
      refine lv_aload_n hx hb dX2_join_54 rfl (lv_at hl 3 rfl) ?_
      refine va_get (D := G) (ci := 2) (v := .ref (ad 1)) (C := RX2) (T := TX2) (N := 6) hx hb hts hiX2 hown hK hP 0 rfl rfl 0 (by decide) (hts (.fieldLink RX2 14 "TreapVersions" "store" "LTreapVersions$Store;") (by decide +kernel)) (fun _ h9 => h9) rfl dX2_join_55 ?_
      refine lv_iload hx hb dX2_join_58 (lv_at hl 1 rfl) ?_
      refine lv_iconst (v := 0) hx hb dX2_join_60 (by decide) ?_
      refine CtI.call (As := [.int z8, .int 0]) (rest := []) (c_X0_nodeAt l G ad C V cI cZ z8 0 u11 _ hw) ⟨hx, hb, hml, hown, hts⟩ (cwV 2 hts gX2_join_X0_nodeAt rfl rfl rfl (by decide +kernel) ⟨Nat.le_of_ble_eq_true rfl, Nat.le_of_ble_eq_true rfl⟩) (va_recv hK hP (ci := 0) (q0 := 1) rfl rfl) hK hP hD hS hA rfl hl.1 rfl (Nat.le_of_ble_eq_true rfl) dX2_join_61 ⟨Nat.zero_le _, Nat.zero_le _⟩ (fun r14 u13 H locs hw hP hD hS => ?_)
      refine lv_istore (lv' := [(6, .int r14), (5, .int r12), (4, .int z8), (3, .int z7), (0, .ref (ad 0)), (1, .int p0), (2, .int p1)]) hx hb dX2_join_64 hl (by decide) rfl (fun ls hl => ?_)
      refine lv_iload hx hb dX2_join_66 (lv_at hl 1 rfl) ?_
      refine lv_if_eq (tgt := 102) hx hb dX2_join_68 (by decide) (fun c15 => ?_) (fun c15 => ?_)
      · have hw := brN.t hw c15
        refine lv_aload_n hx hb dX2_join_102 rfl (lv_at hl 4 rfl) ?_
        refine va_get (D := G) (ci := 2) (v := .ref (ad 2)) (C := RX2) (T := TX2) (N := 6) hx hb hts hiX2 hown hK hP 0 rfl rfl 1 (by decide) (hts (.fieldLink RX2 23 "TreapVersions" "way" "LTreapVersions$Way;") (by decide +kernel)) (fun _ h9 => h9) rfl dX2_join_103 ?_
        refine lv_iconst (v := 0) hx hb dX2_join_106 (by decide) ?_
        refine va_put (D := G) (ci := 1) (v := .int 0) (ty := .int) (C := RX1) (T := TX1) (N := 3) hx hb hts hiX1 tyX1 tyX1_ok nmX1 hown hK hP hD hS 2 rfl rfl 2 (by decide) (hts (.fieldLink RX2 47 "TreapVersions$Way" "length" "I") (by decide +kernel)) (fun _ h9 => h9) rfl (by decide +kernel) rfl rfl (Nat.le_of_ble_eq_true rfl) dX2_join_107 (fun H locs hP hD hS => ?_)
        obtain ⟨u16, eu16⟩ : ∃ z : CS, z = cset u13 11 (fun _ => 0) := ⟨_, rfl⟩
        have hP : va_P G vwCl (cw ad C V cI cZ (cset u13 11 (fun _ => 0))) H := hP
        have hD : va_D A (cw ad C V cI cZ (cset u13 11 (fun _ => 0))) := hD
        rw [← eu16] at hP hD
        have hw := stF.go hw u16 eu16
        refine lv_aload_n hx hb dX2_join_110 rfl (lv_at hl 4 rfl) ?_
        refine va_get (D := G) (ci := 2) (v := .ref (ad 2)) (C := RX2) (T := TX2) (N := 6) hx hb hts hiX2 hown hK hP 0 rfl rfl 1 (by decide) (hts (.fieldLink RX2 23 "TreapVersions" "way" "LTreapVersions$Way;") (by decide +kernel)) (fun _ h9 => h9) rfl dX2_join_111 ?_
        refine lv_iload_n hx hb dX2_join_114 rfl (lv_at hl 3 rfl) ?_
        refine lv_iload hx hb dX2_join_115 (lv_at hl 2 rfl) ?_
        refine CtI.call (As := [.int z7, .int z8]) (rest := []) (c_X1_noteJoint l G ad C V cI cZ z7 z8 u16 _ hw) ⟨hx, hb, hml, hown, hts⟩ (cwV 2 hts gX2_join_X1_noteJoint rfl rfl rfl (by decide +kernel) ⟨Nat.le_of_ble_eq_true rfl, Nat.le_of_ble_eq_true rfl⟩) (va_recv hK hP (ci := 1) (q0 := 2) rfl rfl) hK hP hD hS hA rfl hl.1 rfl (Nat.le_of_ble_eq_true rfl) dX2_join_117 ⟨Nat.zero_le _, Nat.zero_le _⟩ (fun r18 u17 H locs hw hP hD hS => ?_)
        refine lv_istore (lv' := [(7, .int r18), (6, .int r14), (5, .int r12), (4, .int z8), (3, .int z7), (0, .ref (ad 0)), (1, .int p0), (2, .int p1)]) hx hb dX2_join_120 hl (by decide) rfl (fun ls hl => ?_)
        refine lv_aload_n hx hb dX2_join_122 rfl (lv_at hl 5 rfl) ?_
        refine lv_aload_n hx hb dX2_join_123 rfl (lv_at hl 5 rfl) ?_
        refine va_get (D := G) (ci := 2) (v := .ref (ad 2)) (C := RX2) (T := TX2) (N := 6) hx hb hts hiX2 hown hK hP 0 rfl rfl 1 (by decide) (hts (.fieldLink RX2 23 "TreapVersions" "way" "LTreapVersions$Way;") (by decide +kernel)) (fun _ h9 => h9) rfl dX2_join_124 ?_
        refine va_get (D := G) (ci := 1) (v := .int (u17 11 0)) (C := RX1) (T := TX1) (N := 3) hx hb hts hiX1 hown hK hP 2 rfl rfl 2 (by decide) (hts (.fieldLink RX2 47 "TreapVersions$Way" "length" "I") (by decide +kernel)) (fun _ h9 => h9) rfl dX2_join_127 ?_
        refine lv_topi (fun z19 ez19 => ?_)
        have hw := nmI.go hw z19 ez19
        refine CtI.call (As := [.int z19]) (rest := []) (c_X2_handleFor l G ad C V cI cZ z19 u17 _ hw) ⟨hx, hb, hml, hown, hts⟩ (cwV 1 hts gX2_join_X2_handleFor rfl rfl rfl (by decide +kernel) ⟨Nat.le_of_ble_eq_true rfl, Nat.le_of_ble_eq_true rfl⟩) (va_recv hK hP (ci := 2) (q0 := 0) rfl rfl) hK hP hD hS hA rfl hl.1 rfl (Nat.le_of_ble_eq_true rfl) dX2_join_130 ⟨Nat.zero_le _, Nat.zero_le _⟩ (fun r21 u20 H locs hw hP hD hS => ?_)
        refine lv_istore (lv' := [(8, .int r21), (7, .int r18), (6, .int r14), (5, .int r12), (4, .int z8), (3, .int z7), (0, .ref (ad 0)), (1, .int p0), (2, .int p1)]) hx hb dX2_join_133 hl (by decide) rfl (fun ls hl => ?_)
        refine lv_iload hx hb dX2_join_135 (lv_at hl 0 rfl) ?_
        refine lv_if_ge (tgt := 145) hx hb dX2_join_137 (by decide) (fun c22 => ?_) (fun c22 => ?_)
        · have hw := brN.t hw c22
          refine lv_aload_n hx hb dX2_join_145 rfl (lv_at hl 6 rfl) ?_
          refine lv_iload hx hb dX2_join_146 (lv_at hl 0 rfl) ?_
          refine lv_aload_n hx hb dX2_join_148 rfl (lv_at hl 6 rfl) ?_
          refine va_get (D := G) (ci := 2) (v := .ref (ad 2)) (C := RX2) (T := TX2) (N := 6) hx hb hts hiX2 hown hK hP 0 rfl rfl 1 (by decide) (hts (.fieldLink RX2 23 "TreapVersions" "way" "LTreapVersions$Way;") (by decide +kernel)) (fun _ h9 => h9) rfl dX2_join_149 ?_
          refine lv_iload hx hb dX2_join_152 (lv_at hl 1 rfl) ?_
          refine lv_aload_n hx hb dX2_join_154 rfl (lv_at hl 6 rfl) ?_
          refine va_get (D := G) (ci := 2) (v := .ref (ad 1)) (C := RX2) (T := TX2) (N := 6) hx hb hts hiX2 hown hK hP 0 rfl rfl 0 (by decide) (hts (.fieldLink RX2 14 "TreapVersions" "store" "LTreapVersions$Store;") (by decide +kernel)) (fun _ h9 => h9) rfl dX2_join_155 ?_
          refine va_get (D := G) (ci := 0) (v := .ref (ad 5)) (C := RX0) (T := TX0) (N := 11) hx hb hts hiX0 hown hK hP 1 rfl rfl 1 (by decide) (hts (.fieldLink RX2 94 "TreapVersions$Store" "key" "[I") (by decide +kernel)) (fun _ h9 => h9) rfl dX2_join_158 ?_
          refine lv_iload hx hb dX2_join_161 (lv_at hl 2 rfl) ?_
          refine va_iald hx hb hK hP 5 0 rfl rfl (rdA.hin hw) dX2_join_163 ?_
          refine lv_topi (fun z23 ez23 => ?_)
          have hw := rdA.go hw z23 ez23
          refine CtI.call (As := [.int r18, .int z23]) (rest := [.int r21, .ref (ad 0)]) (c_X1_copyOver l G ad C V cI cZ r18 z23 u20 _ hw) ⟨hx, hb, hml, hown, hts⟩ (cwV 2 hts gX2_join_X1_copyOver rfl rfl rfl (by decide +kernel) ⟨Nat.le_of_ble_eq_true rfl, Nat.le_of_ble_eq_true rfl⟩) (va_recv hK hP (ci := 1) (q0 := 2) rfl rfl) hK hP hD hS hA rfl hl.1 rfl (Nat.le_of_ble_eq_true rfl) dX2_join_164 ⟨Nat.zero_le _, Nat.zero_le _⟩ (fun r25 u24 H locs hw hP hD hS => ?_)
          refine CtI.call (As := [.int r21, .int r25]) (rest := []) (c_X2_open l G ad C V cI cZ r21 r25 u24 _ hw) ⟨hx, hb, hml, hown, hts⟩ (cwV 2 hts gX2_join_X2_open rfl rfl rfl (by decide +kernel) ⟨Nat.le_of_ble_eq_true rfl, Nat.le_of_ble_eq_true rfl⟩) (va_recv hK hP (ci := 2) (q0 := 0) rfl rfl) hK hP hD hS hA rfl hl.1 rfl (Nat.le_of_ble_eq_true rfl) dX2_join_167 ⟨Nat.zero_le _, Nat.zero_le _⟩ (fun r27 u26 H locs hw hP hD hS => ?_)
          exact hret r27 u26 170 _ _ _ dX2_join_170 rfl hw hP hD hS
        · have hw := brN.f hw c22
          refine lv_iload hx hb dX2_join_140 (lv_at hl 0 rfl) ?_
          refine lv_goto (tgt := 170) hx hb dX2_join_142 (by decide) ?_
          exact hret r21 u20 170 _ _ _ dX2_join_170 rfl hw hP hD hS
      · have hw := brN.f hw c15
        refine lv_iload hx hb dX2_join_71 (lv_at hl 0 rfl) ?_
        refine lv_if_eq (tgt := 102) hx hb dX2_join_73 (by decide) (fun c28 => ?_) (fun c28 => ?_)
        · have hw := brN.t hw c28
          refine lv_aload_n hx hb dX2_join_102 rfl (lv_at hl 4 rfl) ?_
          refine va_get (D := G) (ci := 2) (v := .ref (ad 2)) (C := RX2) (T := TX2) (N := 6) hx hb hts hiX2 hown hK hP 0 rfl rfl 1 (by decide) (hts (.fieldLink RX2 23 "TreapVersions" "way" "LTreapVersions$Way;") (by decide +kernel)) (fun _ h9 => h9) rfl dX2_join_103 ?_
          refine lv_iconst (v := 0) hx hb dX2_join_106 (by decide) ?_
          refine va_put (D := G) (ci := 1) (v := .int 0) (ty := .int) (C := RX1) (T := TX1) (N := 3) hx hb hts hiX1 tyX1 tyX1_ok nmX1 hown hK hP hD hS 2 rfl rfl 2 (by decide) (hts (.fieldLink RX2 47 "TreapVersions$Way" "length" "I") (by decide +kernel)) (fun _ h9 => h9) rfl (by decide +kernel) rfl rfl (Nat.le_of_ble_eq_true rfl) dX2_join_107 (fun H locs hP hD hS => ?_)
          obtain ⟨u29, eu29⟩ : ∃ z : CS, z = cset u13 11 (fun _ => 0) := ⟨_, rfl⟩
          have hP : va_P G vwCl (cw ad C V cI cZ (cset u13 11 (fun _ => 0))) H := hP
          have hD : va_D A (cw ad C V cI cZ (cset u13 11 (fun _ => 0))) := hD
          rw [← eu29] at hP hD
          have hw := stF.go hw u29 eu29
          refine lv_aload_n hx hb dX2_join_110 rfl (lv_at hl 4 rfl) ?_
          refine va_get (D := G) (ci := 2) (v := .ref (ad 2)) (C := RX2) (T := TX2) (N := 6) hx hb hts hiX2 hown hK hP 0 rfl rfl 1 (by decide) (hts (.fieldLink RX2 23 "TreapVersions" "way" "LTreapVersions$Way;") (by decide +kernel)) (fun _ h9 => h9) rfl dX2_join_111 ?_
          refine lv_iload_n hx hb dX2_join_114 rfl (lv_at hl 3 rfl) ?_
          refine lv_iload hx hb dX2_join_115 (lv_at hl 2 rfl) ?_
          refine CtI.call (As := [.int z7, .int z8]) (rest := []) (c_X1_noteJoint l G ad C V cI cZ z7 z8 u29 _ hw) ⟨hx, hb, hml, hown, hts⟩ (cwV 2 hts gX2_join_X1_noteJoint rfl rfl rfl (by decide +kernel) ⟨Nat.le_of_ble_eq_true rfl, Nat.le_of_ble_eq_true rfl⟩) (va_recv hK hP (ci := 1) (q0 := 2) rfl rfl) hK hP hD hS hA rfl hl.1 rfl (Nat.le_of_ble_eq_true rfl) dX2_join_117 ⟨Nat.zero_le _, Nat.zero_le _⟩ (fun r31 u30 H locs hw hP hD hS => ?_)
          refine lv_istore (lv' := [(7, .int r31), (6, .int r14), (5, .int r12), (4, .int z8), (3, .int z7), (0, .ref (ad 0)), (1, .int p0), (2, .int p1)]) hx hb dX2_join_120 hl (by decide) rfl (fun ls hl => ?_)
          refine lv_aload_n hx hb dX2_join_122 rfl (lv_at hl 5 rfl) ?_
          refine lv_aload_n hx hb dX2_join_123 rfl (lv_at hl 5 rfl) ?_
          refine va_get (D := G) (ci := 2) (v := .ref (ad 2)) (C := RX2) (T := TX2) (N := 6) hx hb hts hiX2 hown hK hP 0 rfl rfl 1 (by decide) (hts (.fieldLink RX2 23 "TreapVersions" "way" "LTreapVersions$Way;") (by decide +kernel)) (fun _ h9 => h9) rfl dX2_join_124 ?_
          refine va_get (D := G) (ci := 1) (v := .int (u30 11 0)) (C := RX1) (T := TX1) (N := 3) hx hb hts hiX1 hown hK hP 2 rfl rfl 2 (by decide) (hts (.fieldLink RX2 47 "TreapVersions$Way" "length" "I") (by decide +kernel)) (fun _ h9 => h9) rfl dX2_join_127 ?_
          refine lv_topi (fun z32 ez32 => ?_)
          have hw := nmI.go hw z32 ez32
          refine CtI.call (As := [.int z32]) (rest := []) (c_X2_handleFor l G ad C V cI cZ z32 u30 _ hw) ⟨hx, hb, hml, hown, hts⟩ (cwV 1 hts gX2_join_X2_handleFor rfl rfl rfl (by decide +kernel) ⟨Nat.le_of_ble_eq_true rfl, Nat.le_of_ble_eq_true rfl⟩) (va_recv hK hP (ci := 2) (q0 := 0) rfl rfl) hK hP hD hS hA rfl hl.1 rfl (Nat.le_of_ble_eq_true rfl) dX2_join_130 ⟨Nat.zero_le _, Nat.zero_le _⟩ (fun r34 u33 H locs hw hP hD hS => ?_)
          refine lv_istore (lv' := [(8, .int r34), (7, .int r31), (6, .int r14), (5, .int r12), (4, .int z8), (3, .int z7), (0, .ref (ad 0)), (1, .int p0), (2, .int p1)]) hx hb dX2_join_133 hl (by decide) rfl (fun ls hl => ?_)
          refine lv_iload hx hb dX2_join_135 (lv_at hl 0 rfl) ?_
          refine lv_if_ge (tgt := 145) hx hb dX2_join_137 (by decide) (fun c35 => ?_) (fun c35 => ?_)
          · have hw := brN.t hw c35
            refine lv_aload_n hx hb dX2_join_145 rfl (lv_at hl 6 rfl) ?_
            refine lv_iload hx hb dX2_join_146 (lv_at hl 0 rfl) ?_
            refine lv_aload_n hx hb dX2_join_148 rfl (lv_at hl 6 rfl) ?_
            refine va_get (D := G) (ci := 2) (v := .ref (ad 2)) (C := RX2) (T := TX2) (N := 6) hx hb hts hiX2 hown hK hP 0 rfl rfl 1 (by decide) (hts (.fieldLink RX2 23 "TreapVersions" "way" "LTreapVersions$Way;") (by decide +kernel)) (fun _ h9 => h9) rfl dX2_join_149 ?_
            refine lv_iload hx hb dX2_join_152 (lv_at hl 1 rfl) ?_
            refine lv_aload_n hx hb dX2_join_154 rfl (lv_at hl 6 rfl) ?_
            refine va_get (D := G) (ci := 2) (v := .ref (ad 1)) (C := RX2) (T := TX2) (N := 6) hx hb hts hiX2 hown hK hP 0 rfl rfl 0 (by decide) (hts (.fieldLink RX2 14 "TreapVersions" "store" "LTreapVersions$Store;") (by decide +kernel)) (fun _ h9 => h9) rfl dX2_join_155 ?_
            refine va_get (D := G) (ci := 0) (v := .ref (ad 5)) (C := RX0) (T := TX0) (N := 11) hx hb hts hiX0 hown hK hP 1 rfl rfl 1 (by decide) (hts (.fieldLink RX2 94 "TreapVersions$Store" "key" "[I") (by decide +kernel)) (fun _ h9 => h9) rfl dX2_join_158 ?_
            refine lv_iload hx hb dX2_join_161 (lv_at hl 2 rfl) ?_
            refine va_iald hx hb hK hP 5 0 rfl rfl (rdA.hin hw) dX2_join_163 ?_
            refine lv_topi (fun z36 ez36 => ?_)
            have hw := rdA.go hw z36 ez36
            refine CtI.call (As := [.int r31, .int z36]) (rest := [.int r34, .ref (ad 0)]) (c_X1_copyOver l G ad C V cI cZ r31 z36 u33 _ hw) ⟨hx, hb, hml, hown, hts⟩ (cwV 2 hts gX2_join_X1_copyOver rfl rfl rfl (by decide +kernel) ⟨Nat.le_of_ble_eq_true rfl, Nat.le_of_ble_eq_true rfl⟩) (va_recv hK hP (ci := 1) (q0 := 2) rfl rfl) hK hP hD hS hA rfl hl.1 rfl (Nat.le_of_ble_eq_true rfl) dX2_join_164 ⟨Nat.zero_le _, Nat.zero_le _⟩ (fun r38 u37 H locs hw hP hD hS => ?_)
            refine CtI.call (As := [.int r34, .int r38]) (rest := []) (c_X2_open l G ad C V cI cZ r34 r38 u37 _ hw) ⟨hx, hb, hml, hown, hts⟩ (cwV 2 hts gX2_join_X2_open rfl rfl rfl (by decide +kernel) ⟨Nat.le_of_ble_eq_true rfl, Nat.le_of_ble_eq_true rfl⟩) (va_recv hK hP (ci := 2) (q0 := 0) rfl rfl) hK hP hD hS hA rfl hl.1 rfl (Nat.le_of_ble_eq_true rfl) dX2_join_167 ⟨Nat.zero_le _, Nat.zero_le _⟩ (fun r40 u39 H locs hw hP hD hS => ?_)
            exact hret r40 u39 170 _ _ _ dX2_join_170 rfl hw hP hD hS
          · have hw := brN.f hw c35
            refine lv_iload hx hb dX2_join_140 (lv_at hl 0 rfl) ?_
            refine lv_goto (tgt := 170) hx hb dX2_join_142 (by decide) ?_
            exact hret r34 u33 170 _ _ _ dX2_join_170 rfl hw hP hD hS
        · have hw := brN.f hw c28
          refine lv_aload_n hx hb dX2_join_76 rfl (lv_at hl 4 rfl) ?_
          refine va_get (D := G) (ci := 2) (v := .ref (ad 1)) (C := RX2) (T := TX2) (N := 6) hx hb hts hiX2 hown hK hP 0 rfl rfl 0 (by decide) (hts (.fieldLink RX2 14 "TreapVersions" "store" "LTreapVersions$Store;") (by decide +kernel)) (fun _ h9 => h9) rfl dX2_join_77 ?_
          refine va_get (D := G) (ci := 0) (v := .ref (ad 5)) (C := RX0) (T := TX0) (N := 11) hx hb hts hiX0 hown hK hP 1 rfl rfl 1 (by decide) (hts (.fieldLink RX2 94 "TreapVersions$Store" "key" "[I") (by decide +kernel)) (fun _ h9 => h9) rfl dX2_join_80 ?_
          refine lv_iload hx hb dX2_join_83 (lv_at hl 1 rfl) ?_
          refine va_iald hx hb hK hP 5 0 rfl rfl (rdA.hin hw) dX2_join_85 ?_
          refine lv_topi (fun z41 ez41 => ?_)
          have hw := rdA.go hw z41 ez41
          refine lv_aload_n hx hb dX2_join_86 rfl (lv_at hl 4 rfl) ?_
          refine va_get (D := G) (ci := 2) (v := .ref (ad 1)) (C := RX2) (T := TX2) (N := 6) hx hb hts hiX2 hown hK hP 0 rfl rfl 0 (by decide) (hts (.fieldLink RX2 14 "TreapVersions" "store" "LTreapVersions$Store;") (by decide +kernel)) (fun _ h9 => h9) rfl dX2_join_87 ?_
          refine va_get (D := G) (ci := 0) (v := .ref (ad 5)) (C := RX0) (T := TX0) (N := 11) hx hb hts hiX0 hown hK hP 1 rfl rfl 1 (by decide) (hts (.fieldLink RX2 94 "TreapVersions$Store" "key" "[I") (by decide +kernel)) (fun _ h9 => h9) rfl dX2_join_90 ?_
          refine lv_iload hx hb dX2_join_93 (lv_at hl 0 rfl) ?_
          refine va_iald hx hb hK hP 5 0 rfl rfl (rdA.hin hw) dX2_join_95 ?_
          refine lv_topi (fun z42 ez42 => ?_)
          have hw := rdA.go hw z42 ez42
          refine lv_icmp_lt (tgt := 102) hx hb dX2_join_96 (by decide) (fun c43 => ?_) (fun c43 => ?_)
          · have hw := brN.t hw c43
            refine lv_aload_n hx hb dX2_join_102 rfl (lv_at hl 4 rfl) ?_
            refine va_get (D := G) (ci := 2) (v := .ref (ad 2)) (C := RX2) (T := TX2) (N := 6) hx hb hts hiX2 hown hK hP 0 rfl rfl 1 (by decide) (hts (.fieldLink RX2 23 "TreapVersions" "way" "LTreapVersions$Way;") (by decide +kernel)) (fun _ h9 => h9) rfl dX2_join_103 ?_
            refine lv_iconst (v := 0) hx hb dX2_join_106 (by decide) ?_
            refine va_put (D := G) (ci := 1) (v := .int 0) (ty := .int) (C := RX1) (T := TX1) (N := 3) hx hb hts hiX1 tyX1 tyX1_ok nmX1 hown hK hP hD hS 2 rfl rfl 2 (by decide) (hts (.fieldLink RX2 47 "TreapVersions$Way" "length" "I") (by decide +kernel)) (fun _ h9 => h9) rfl (by decide +kernel) rfl rfl (Nat.le_of_ble_eq_true rfl) dX2_join_107 (fun H locs hP hD hS => ?_)
            obtain ⟨u44, eu44⟩ : ∃ z : CS, z = cset u13 11 (fun _ => 0) := ⟨_, rfl⟩
            have hP : va_P G vwCl (cw ad C V cI cZ (cset u13 11 (fun _ => 0))) H := hP
            have hD : va_D A (cw ad C V cI cZ (cset u13 11 (fun _ => 0))) := hD
            rw [← eu44] at hP hD
            have hw := stF.go hw u44 eu44
            refine lv_aload_n hx hb dX2_join_110 rfl (lv_at hl 4 rfl) ?_
            refine va_get (D := G) (ci := 2) (v := .ref (ad 2)) (C := RX2) (T := TX2) (N := 6) hx hb hts hiX2 hown hK hP 0 rfl rfl 1 (by decide) (hts (.fieldLink RX2 23 "TreapVersions" "way" "LTreapVersions$Way;") (by decide +kernel)) (fun _ h9 => h9) rfl dX2_join_111 ?_
            refine lv_iload_n hx hb dX2_join_114 rfl (lv_at hl 3 rfl) ?_
            refine lv_iload hx hb dX2_join_115 (lv_at hl 2 rfl) ?_
            refine CtI.call (As := [.int z7, .int z8]) (rest := []) (c_X1_noteJoint l G ad C V cI cZ z7 z8 u44 _ hw) ⟨hx, hb, hml, hown, hts⟩ (cwV 2 hts gX2_join_X1_noteJoint rfl rfl rfl (by decide +kernel) ⟨Nat.le_of_ble_eq_true rfl, Nat.le_of_ble_eq_true rfl⟩) (va_recv hK hP (ci := 1) (q0 := 2) rfl rfl) hK hP hD hS hA rfl hl.1 rfl (Nat.le_of_ble_eq_true rfl) dX2_join_117 ⟨Nat.zero_le _, Nat.zero_le _⟩ (fun r46 u45 H locs hw hP hD hS => ?_)
            refine lv_istore (lv' := [(7, .int r46), (6, .int r14), (5, .int r12), (4, .int z8), (3, .int z7), (0, .ref (ad 0)), (1, .int p0), (2, .int p1)]) hx hb dX2_join_120 hl (by decide) rfl (fun ls hl => ?_)
            refine lv_aload_n hx hb dX2_join_122 rfl (lv_at hl 5 rfl) ?_
            refine lv_aload_n hx hb dX2_join_123 rfl (lv_at hl 5 rfl) ?_
            refine va_get (D := G) (ci := 2) (v := .ref (ad 2)) (C := RX2) (T := TX2) (N := 6) hx hb hts hiX2 hown hK hP 0 rfl rfl 1 (by decide) (hts (.fieldLink RX2 23 "TreapVersions" "way" "LTreapVersions$Way;") (by decide +kernel)) (fun _ h9 => h9) rfl dX2_join_124 ?_
            refine va_get (D := G) (ci := 1) (v := .int (u45 11 0)) (C := RX1) (T := TX1) (N := 3) hx hb hts hiX1 hown hK hP 2 rfl rfl 2 (by decide) (hts (.fieldLink RX2 47 "TreapVersions$Way" "length" "I") (by decide +kernel)) (fun _ h9 => h9) rfl dX2_join_127 ?_
            refine lv_topi (fun z47 ez47 => ?_)
            have hw := nmI.go hw z47 ez47
            refine CtI.call (As := [.int z47]) (rest := []) (c_X2_handleFor l G ad C V cI cZ z47 u45 _ hw) ⟨hx, hb, hml, hown, hts⟩ (cwV 1 hts gX2_join_X2_handleFor rfl rfl rfl (by decide +kernel) ⟨Nat.le_of_ble_eq_true rfl, Nat.le_of_ble_eq_true rfl⟩) (va_recv hK hP (ci := 2) (q0 := 0) rfl rfl) hK hP hD hS hA rfl hl.1 rfl (Nat.le_of_ble_eq_true rfl) dX2_join_130 ⟨Nat.zero_le _, Nat.zero_le _⟩ (fun r49 u48 H locs hw hP hD hS => ?_)
            refine lv_istore (lv' := [(8, .int r49), (7, .int r46), (6, .int r14), (5, .int r12), (4, .int z8), (3, .int z7), (0, .ref (ad 0)), (1, .int p0), (2, .int p1)]) hx hb dX2_join_133 hl (by decide) rfl (fun ls hl => ?_)
            refine lv_iload hx hb dX2_join_135 (lv_at hl 0 rfl) ?_
            refine lv_if_ge (tgt := 145) hx hb dX2_join_137 (by decide) (fun c50 => ?_) (fun c50 => ?_)
            · have hw := brN.t hw c50
              refine lv_aload_n hx hb dX2_join_145 rfl (lv_at hl 6 rfl) ?_
              refine lv_iload hx hb dX2_join_146 (lv_at hl 0 rfl) ?_
              refine lv_aload_n hx hb dX2_join_148 rfl (lv_at hl 6 rfl) ?_
              refine va_get (D := G) (ci := 2) (v := .ref (ad 2)) (C := RX2) (T := TX2) (N := 6) hx hb hts hiX2 hown hK hP 0 rfl rfl 1 (by decide) (hts (.fieldLink RX2 23 "TreapVersions" "way" "LTreapVersions$Way;") (by decide +kernel)) (fun _ h9 => h9) rfl dX2_join_149 ?_
              refine lv_iload hx hb dX2_join_152 (lv_at hl 1 rfl) ?_
              refine lv_aload_n hx hb dX2_join_154 rfl (lv_at hl 6 rfl) ?_
              refine va_get (D := G) (ci := 2) (v := .ref (ad 1)) (C := RX2) (T := TX2) (N := 6) hx hb hts hiX2 hown hK hP 0 rfl rfl 0 (by decide) (hts (.fieldLink RX2 14 "TreapVersions" "store" "LTreapVersions$Store;") (by decide +kernel)) (fun _ h9 => h9) rfl dX2_join_155 ?_
              refine va_get (D := G) (ci := 0) (v := .ref (ad 5)) (C := RX0) (T := TX0) (N := 11) hx hb hts hiX0 hown hK hP 1 rfl rfl 1 (by decide) (hts (.fieldLink RX2 94 "TreapVersions$Store" "key" "[I") (by decide +kernel)) (fun _ h9 => h9) rfl dX2_join_158 ?_
              refine lv_iload hx hb dX2_join_161 (lv_at hl 2 rfl) ?_
              refine va_iald hx hb hK hP 5 0 rfl rfl (rdA.hin hw) dX2_join_163 ?_
              refine lv_topi (fun z51 ez51 => ?_)
              have hw := rdA.go hw z51 ez51
              refine CtI.call (As := [.int r46, .int z51]) (rest := [.int r49, .ref (ad 0)]) (c_X1_copyOver l G ad C V cI cZ r46 z51 u48 _ hw) ⟨hx, hb, hml, hown, hts⟩ (cwV 2 hts gX2_join_X1_copyOver rfl rfl rfl (by decide +kernel) ⟨Nat.le_of_ble_eq_true rfl, Nat.le_of_ble_eq_true rfl⟩) (va_recv hK hP (ci := 1) (q0 := 2) rfl rfl) hK hP hD hS hA rfl hl.1 rfl (Nat.le_of_ble_eq_true rfl) dX2_join_164 ⟨Nat.zero_le _, Nat.zero_le _⟩ (fun r53 u52 H locs hw hP hD hS => ?_)
              refine CtI.call (As := [.int r49, .int r53]) (rest := []) (c_X2_open l G ad C V cI cZ r49 r53 u52 _ hw) ⟨hx, hb, hml, hown, hts⟩ (cwV 2 hts gX2_join_X2_open rfl rfl rfl (by decide +kernel) ⟨Nat.le_of_ble_eq_true rfl, Nat.le_of_ble_eq_true rfl⟩) (va_recv hK hP (ci := 2) (q0 := 0) rfl rfl) hK hP hD hS hA rfl hl.1 rfl (Nat.le_of_ble_eq_true rfl) dX2_join_167 ⟨Nat.zero_le _, Nat.zero_le _⟩ (fun r55 u54 H locs hw hP hD hS => ?_)
              exact hret r55 u54 170 _ _ _ dX2_join_170 rfl hw hP hD hS
            · have hw := brN.f hw c50
              refine lv_iload hx hb dX2_join_140 (lv_at hl 0 rfl) ?_
              refine lv_goto (tgt := 170) hx hb dX2_join_142 (by decide) ?_
              exact hret r49 u48 170 _ _ _ dX2_join_170 rfl hw hP hD hS
          · have hw := brN.f hw c43
            refine lv_bipush (v := (-4)) hx hb dX2_join_99 (by decide) ?_
            exact hret (-4) u13 101 _ _ _ dX2_join_101 rfl hw hP hD hS
    · have hw := brN.t hw c6
      refine lv_iconst (v := (-1)) hx hb dX2_join_16 (by decide) ?_
      exact hret (-1) u4 17 _ _ _ dX2_join_17 rfl hw hP hD hS
set_option maxHeartbeats 4000000 in
set_option maxRecDepth 100000 in
theorem c_X2_drop (l : Launch) (G : va_G) (ad : Nat → Nat) (C V : Nat) (cI cZ : ClassId) (p0 : Int32) (u : CS) (post : Int32 → CS → Prop) (hw : wp_X2_drop C V p0 u post) : CtI l yX2_drop wsX2_drop ({ frames := 1, cells := 0, slots := 0, locals := 21 }) G (ty2 cI cZ) (cw ad C V cI cZ) [.ref (ad 0), .int p0] u (fun r u => isB r ∧ post r u) := by
  refine CtI.of (cc := cX2_drop) (maxL := 2) (rt := .boolean) (by decide) rfl (Nat.le_of_ble_eq_true rfl) ?_
  intro p e s m below meth c A Q hx hb hml hts hown hK hA hret ls hl hP hD hS
  have hiX2 : ∀ w ∈ u_ws RX2 TX2 6, w ∈ wsX2_drop := by decide +kernel
  have hown : s.vm.findClass RX2 = some m.cls := hown
  have hl : lv_has ls 2 [(0, .ref (ad 0)), (1, .int p0)] := hl
  unfold wp_X2_drop at hw
  refine lv_aload_n hx hb dX2_drop_0 rfl (lv_at hl 0 rfl) ?_
  refine lv_iload_n hx hb dX2_drop_1 rfl (lv_at hl 1 rfl) ?_
  refine CtI.call (As := [.int p0]) (rest := []) (c_X2_isLive l G ad C V cI cZ p0 u _ hw) ⟨hx, hb, hml, hown, hts⟩ (cwV 1 hts gX2_drop_X2_isLive rfl rfl rfl (by decide +kernel) ⟨Nat.le_of_ble_eq_true rfl, Nat.le_of_ble_eq_true rfl⟩) (va_recv hK hP (ci := 2) (q0 := 0) rfl rfl) hK hP hD hS hA rfl hl.1 rfl (Nat.le_of_ble_eq_true rfl) dX2_drop_2 ⟨Nat.zero_le _, Nat.zero_le _⟩ (fun r2 u1 H locs hw hP hD hS => ?_)
  obtain ⟨hz, hw⟩ := hw
  refine lv_if_ne (tgt := 10) hx hb dX2_drop_5 (by decide) (fun c3 => ?_) (fun c3 => ?_)
  · have hw := brN.f hw c3
    refine lv_aload_n hx hb dX2_drop_10 rfl (lv_at hl 0 rfl) ?_
    refine va_get (D := G) (ci := 2) (v := .ref (ad 3)) (C := RX2) (T := TX2) (N := 6) hx hb hts hiX2 hown hK hP 0 rfl rfl 2 (by decide) (hts (.fieldLink RX2 27 "TreapVersions" "live" "[Z") (by decide +kernel)) (fun _ h9 => h9) rfl dX2_drop_11 ?_
    refine lv_iload_n hx hb dX2_drop_14 rfl (lv_at hl 1 rfl) ?_
    refine lv_iconst (v := 0) hx hb dX2_drop_15 (by decide) ?_
    refine va_zast hx hb hK hP hD hS 3 1 rfl rfl (wrZ.hin hw) dX2_drop_16 (fun H locs hP hD hS => ?_)
    obtain ⟨u4, eu4⟩ : ∃ z : CS, z = cset u1 12 (upd (u1 12) p0.toNatClampNeg (vp_nar .boolean 0)) := ⟨_, rfl⟩
    have hP : va_P G vwCl (cw ad C V cI cZ (cset u1 12 (upd (u1 12) p0.toNatClampNeg (vp_nar .boolean 0)))) H := hP
    have hD : va_D A (cw ad C V cI cZ (cset u1 12 (upd (u1 12) p0.toNatClampNeg (vp_nar .boolean 0)))) := hD
    rw [← eu4] at hP hD
    have hw := wrZ.go hw u4 eu4
    refine lv_iconst (v := 1) hx hb dX2_drop_17 (by decide) ?_
    exact hret 1 u4 18 _ _ _ dX2_drop_18 rfl ⟨isB_1, hw⟩ hP hD hS
  · have hw := brN.t hw c3
    refine lv_iconst (v := 0) hx hb dX2_drop_8 (by decide) ?_
    exact hret 0 u1 9 _ _ _ dX2_drop_9 rfl ⟨isB_0, hw⟩ hP hD hS
set_option maxHeartbeats 4000000 in
set_option maxRecDepth 100000 in
theorem c_X2_contains (l : Launch) (G : va_G) (ad : Nat → Nat) (C V : Nat) (cI cZ : ClassId) (p0 : Int32) (p1 : Int32) (u : CS) (post : Int32 → CS → Prop) (hw : wp_X2_contains C V p0 p1 u post) : CtI l yX2_contains wsX2_contains ({ frames := 2, cells := 0, slots := 0, locals := 45 }) G (ty2 cI cZ) (cw ad C V cI cZ) [.ref (ad 0), .int p0, .int p1] u (fun r u => isB r ∧ post r u) := by
  refine CtI.of (cc := cX2_contains) (maxL := 3) (rt := .boolean) (by decide) rfl (Nat.le_of_ble_eq_true rfl) ?_
  intro p e s m below meth c A Q hx hb hml hts hown hK hA hret ls hl hP hD hS
  have hown : s.vm.findClass RX2 = some m.cls := hown
  have hl : lv_has ls 3 [(0, .ref (ad 0)), (1, .int p0), (2, .int p1)] := hl
  unfold wp_X2_contains at hw
  refine lv_aload_n hx hb dX2_contains_0 rfl (lv_at hl 0 rfl) ?_
  refine lv_iload_n hx hb dX2_contains_1 rfl (lv_at hl 1 rfl) ?_
  refine lv_iload_n hx hb dX2_contains_2 rfl (lv_at hl 2 rfl) ?_
  refine CtI.call (As := [.int p0, .int p1]) (rest := []) (c_X2_nodeWith l G ad C V cI cZ p0 p1 u _ hw) ⟨hx, hb, hml, hown, hts⟩ (cwV 2 hts gX2_contains_X2_nodeWith rfl rfl rfl (by decide +kernel) ⟨Nat.le_of_ble_eq_true rfl, Nat.le_of_ble_eq_true rfl⟩) (va_recv hK hP (ci := 2) (q0 := 0) rfl rfl) hK hP hD hS hA rfl hl.1 rfl (Nat.le_of_ble_eq_true rfl) dX2_contains_3 ⟨Nat.zero_le _, Nat.zero_le _⟩ (fun r2 u1 H locs hw hP hD hS => ?_)
  refine lv_if_eq (tgt := 13) hx hb dX2_contains_6 (by decide) (fun c3 => ?_) (fun c3 => ?_)
  · have hw := brN.t hw c3
    refine lv_iconst (v := 0) hx hb dX2_contains_13 (by decide) ?_
    exact hret 0 u1 14 _ _ _ dX2_contains_14 rfl ⟨isB_0, hw⟩ hP hD hS
  · have hw := brN.f hw c3
    refine lv_iconst (v := 1) hx hb dX2_contains_9 (by decide) ?_
    refine lv_goto (tgt := 14) hx hb dX2_contains_10 (by decide) ?_
    exact hret 1 u1 14 _ _ _ dX2_contains_14 rfl ⟨isB_1, hw⟩ hP hD hS
set_option maxHeartbeats 4000000 in
set_option maxRecDepth 100000 in
theorem c_X2_size (l : Launch) (G : va_G) (ad : Nat → Nat) (C V : Nat) (cI cZ : ClassId) (p0 : Int32) (u : CS) (post : Int32 → CS → Prop) (hw : wp_X2_size C V p0 u post) : CtI l yX2_size wsX2_size ({ frames := 1, cells := 0, slots := 0, locals := 21 }) G (ty2 cI cZ) (cw ad C V cI cZ) [.ref (ad 0), .int p0] u post := by
  refine CtI.of (cc := cX2_size) (maxL := 2) (rt := .int) (by decide) rfl (Nat.le_of_ble_eq_true rfl) ?_
  intro p e s m below meth c A Q hx hb hml hts hown hK hA hret ls hl hP hD hS
  have hiX0 : ∀ w ∈ u_ws RX0 TX0 11, w ∈ wsX2_size := by decide +kernel
  have hiX2 : ∀ w ∈ u_ws RX2 TX2 6, w ∈ wsX2_size := by decide +kernel
  have hown : s.vm.findClass RX2 = some m.cls := hown
  have hl : lv_has ls 2 [(0, .ref (ad 0)), (1, .int p0)] := hl
  unfold wp_X2_size at hw
  refine lv_aload_n hx hb dX2_size_0 rfl (lv_at hl 0 rfl) ?_
  refine lv_iload_n hx hb dX2_size_1 rfl (lv_at hl 1 rfl) ?_
  refine CtI.call (As := [.int p0]) (rest := []) (c_X2_isLive l G ad C V cI cZ p0 u _ hw) ⟨hx, hb, hml, hown, hts⟩ (cwV 1 hts gX2_size_X2_isLive rfl rfl rfl (by decide +kernel) ⟨Nat.le_of_ble_eq_true rfl, Nat.le_of_ble_eq_true rfl⟩) (va_recv hK hP (ci := 2) (q0 := 0) rfl rfl) hK hP hD hS hA rfl hl.1 rfl (Nat.le_of_ble_eq_true rfl) dX2_size_2 ⟨Nat.zero_le _, Nat.zero_le _⟩ (fun r2 u1 H locs hw hP hD hS => ?_)
  obtain ⟨hz, hw⟩ := hw
  refine lv_if_eq (tgt := 25) hx hb dX2_size_5 (by decide) (fun c3 => ?_) (fun c3 => ?_)
  · have hw := brN.t hw c3
    refine lv_iconst (v := (-1)) hx hb dX2_size_25 (by decide) ?_
    exact hret (-1) u1 26 _ _ _ dX2_size_26 rfl hw hP hD hS
  · have hw := brN.f hw c3
    refine lv_aload_n hx hb dX2_size_8 rfl (lv_at hl 0 rfl) ?_
    refine va_get (D := G) (ci := 2) (v := .ref (ad 1)) (C := RX2) (T := TX2) (N := 6) hx hb hts hiX2 hown hK hP 0 rfl rfl 0 (by decide) (hts (.fieldLink RX2 14 "TreapVersions" "store" "LTreapVersions$Store;") (by decide +kernel)) (fun _ h9 => h9) rfl dX2_size_9 ?_
    refine va_get (D := G) (ci := 0) (v := .ref (ad 10)) (C := RX0) (T := TX0) (N := 11) hx hb hts hiX0 hown hK hP 1 rfl rfl 6 (by decide) (hts (.fieldLink RX2 88 "TreapVersions$Store" "count" "[I") (by decide +kernel)) (fun _ h9 => h9) rfl dX2_size_12 ?_
    refine lv_aload_n hx hb dX2_size_15 rfl (lv_at hl 0 rfl) ?_
    refine va_get (D := G) (ci := 2) (v := .ref (ad 4)) (C := RX2) (T := TX2) (N := 6) hx hb hts hiX2 hown hK hP 0 rfl rfl 3 (by decide) (hts (.fieldLink RX2 31 "TreapVersions" "roots" "[I") (by decide +kernel)) (fun _ h9 => h9) rfl dX2_size_16 ?_
    refine lv_iload_n hx hb dX2_size_19 rfl (lv_at hl 1 rfl) ?_
    refine va_iald hx hb hK hP 4 0 rfl rfl (rdA.hin hw) dX2_size_20 ?_
    refine lv_topi (fun z4 ez4 => ?_)
    have hw := rdA.go hw z4 ez4
    refine va_iald hx hb hK hP 10 0 rfl rfl (rdA.hin hw) dX2_size_21 ?_
    refine lv_topi (fun z5 ez5 => ?_)
    have hw := rdA.go hw z5 ez5
    refine lv_goto (tgt := 26) hx hb dX2_size_22 (by decide) ?_
    exact hret z5 u1 26 _ _ _ dX2_size_26 rfl hw hP hD hS
set_option maxHeartbeats 4000000 in
set_option maxRecDepth 100000 in
theorem c_X2_sum (l : Launch) (G : va_G) (ad : Nat → Nat) (C V : Nat) (cI cZ : ClassId) (p0 : Int32) (p1 : Int32) (p2 : Int32) (u : CS) (post : Int64 → CS → Prop) (hw : wp_X2_sum C V p0 p1 p2 u post) : CtL l yX2_sum wsX2_sum ({ frames := 2, cells := 0, slots := 0, locals := 48 }) G (ty2 cI cZ) (cw ad C V cI cZ) [.ref (ad 0), .int p0, .int p1, .int p2] u post := by
  refine CtL.of (cc := cX2_sum) (maxL := 4) (by decide) rfl (Nat.le_of_ble_eq_true rfl) ?_
  intro p e s m below meth c A Q hx hb hml hts hown hK hA hret ls hl hP hD hS
  have hiX2 : ∀ w ∈ u_ws RX2 TX2 6, w ∈ wsX2_sum := by decide +kernel
  have hown : s.vm.findClass RX2 = some m.cls := hown
  have hl : lv_has ls 4 [(0, .ref (ad 0)), (1, .int p0), (2, .int p1), (3, .int p2)] := hl
  unfold wp_X2_sum at hw
  refine lv_aload_n hx hb dX2_sum_0 rfl (lv_at hl 0 rfl) ?_
  refine lv_iload_n hx hb dX2_sum_1 rfl (lv_at hl 1 rfl) ?_
  refine CtI.call (As := [.int p0]) (rest := []) (c_X2_isLive l G ad C V cI cZ p0 u _ hw) ⟨hx, hb, hml, hown, hts⟩ (cwV 1 hts gX2_sum_X2_isLive rfl rfl rfl (by decide +kernel) ⟨Nat.le_of_ble_eq_true rfl, Nat.le_of_ble_eq_true rfl⟩) (va_recv hK hP (ci := 2) (q0 := 0) rfl rfl) hK hP hD hS hA rfl hl.1 rfl (Nat.le_of_ble_eq_true rfl) dX2_sum_2 ⟨Nat.zero_le _, Nat.zero_le _⟩ (fun r2 u1 H locs hw hP hD hS => ?_)
  obtain ⟨hz, hw⟩ := hw
  refine lv_if_ne (tgt := 10) hx hb dX2_sum_5 (by decide) (fun c3 => ?_) (fun c3 => ?_)
  · have hw := brN.f hw c3
    refine lv_aload_n hx hb dX2_sum_10 rfl (lv_at hl 0 rfl) ?_
    refine va_get (D := G) (ci := 2) (v := .ref (ad 1)) (C := RX2) (T := TX2) (N := 6) hx hb hts hiX2 hown hK hP 0 rfl rfl 0 (by decide) (hts (.fieldLink RX2 14 "TreapVersions" "store" "LTreapVersions$Store;") (by decide +kernel)) (fun _ h9 => h9) rfl dX2_sum_11 ?_
    refine CtV.call (As := []) (rest := []) (c_X0_forgetReached l G ad C V cI cZ u1 _ hw) ⟨hx, hb, hml, hown, hts⟩ (cwV 0 hts gX2_sum_X0_forgetReached rfl rfl rfl (by decide +kernel) ⟨Nat.le_of_ble_eq_true rfl, Nat.le_of_ble_eq_true rfl⟩) (va_recv hK hP (ci := 0) (q0 := 1) rfl rfl) hK hP hD hS hA rfl hl.1 rfl (Nat.le_of_ble_eq_true rfl) dX2_sum_14 ⟨Nat.zero_le _, Nat.zero_le _⟩ (fun u4 H locs hw hP hD hS => ?_)
    refine lv_aload_n hx hb dX2_sum_17 rfl (lv_at hl 0 rfl) ?_
    refine va_get (D := G) (ci := 2) (v := .ref (ad 1)) (C := RX2) (T := TX2) (N := 6) hx hb hts hiX2 hown hK hP 0 rfl rfl 0 (by decide) (hts (.fieldLink RX2 14 "TreapVersions" "store" "LTreapVersions$Store;") (by decide +kernel)) (fun _ h9 => h9) rfl dX2_sum_18 ?_
    refine lv_aload_n hx hb dX2_sum_21 rfl (lv_at hl 0 rfl) ?_
    refine va_get (D := G) (ci := 2) (v := .ref (ad 4)) (C := RX2) (T := TX2) (N := 6) hx hb hts hiX2 hown hK hP 0 rfl rfl 3 (by decide) (hts (.fieldLink RX2 31 "TreapVersions" "roots" "[I") (by decide +kernel)) (fun _ h9 => h9) rfl dX2_sum_22 ?_
    refine lv_iload_n hx hb dX2_sum_25 rfl (lv_at hl 1 rfl) ?_
    refine va_iald hx hb hK hP 4 0 rfl rfl (rdA.hin hw) dX2_sum_26 ?_
    refine lv_topi (fun z5 ez5 => ?_)
    have hw := rdA.go hw z5 ez5
    refine CtI.call (As := [.int z5]) (rest := []) (c_X0_reach l G ad C V cI cZ z5 u4 _ hw) ⟨hx, hb, hml, hown, hts⟩ (cwV 1 hts gX2_sum_X0_reach rfl rfl rfl (by decide +kernel) ⟨Nat.le_of_ble_eq_true rfl, Nat.le_of_ble_eq_true rfl⟩) (va_recv hK hP (ci := 0) (q0 := 1) rfl rfl) hK hP hD hS hA rfl hl.1 rfl (Nat.le_of_ble_eq_true rfl) dX2_sum_27 ⟨Nat.zero_le _, Nat.zero_le _⟩ (fun r7 u6 H locs hw hP hD hS => ?_)
    refine lv_pop hx hb dX2_sum_30 rfl ?_
    refine lv_aload_n hx hb dX2_sum_31 rfl (lv_at hl 0 rfl) ?_
    refine va_get (D := G) (ci := 2) (v := .ref (ad 1)) (C := RX2) (T := TX2) (N := 6) hx hb hts hiX2 hown hK hP 0 rfl rfl 0 (by decide) (hts (.fieldLink RX2 14 "TreapVersions" "store" "LTreapVersions$Store;") (by decide +kernel)) (fun _ h9 => h9) rfl dX2_sum_32 ?_
    refine lv_iload_n hx hb dX2_sum_35 rfl (lv_at hl 2 rfl) ?_
    refine lv_iload_n hx hb dX2_sum_36 rfl (lv_at hl 3 rfl) ?_
    refine CtL.call (As := [.int p1, .int p2]) (rest := []) (c_X0_sumReached l G ad C V cI cZ p1 p2 u6 _ hw) ⟨hx, hb, hml, hown, hts⟩ (cwV 2 hts gX2_sum_X0_sumReached rfl rfl rfl (by decide +kernel) ⟨Nat.le_of_ble_eq_true rfl, Nat.le_of_ble_eq_true rfl⟩) (va_recv hK hP (ci := 0) (q0 := 1) rfl rfl) hK hP hD hS hA rfl hl.1 rfl (Nat.le_of_ble_eq_true rfl) dX2_sum_37 ⟨Nat.zero_le _, Nat.zero_le _⟩ (fun r9 u8 H locs hw hP hD hS => ?_)
    exact hret r9 u8 40 _ _ _ dX2_sum_40 hw hP hD hS
  · have hw := brN.t hw c3
    refine lv_lconst (v := 0) hx hb dX2_sum_8 (by decide) ?_
    exact hret 0 u1 9 _ _ _ dX2_sum_9 hw hP hD hS
set_option maxHeartbeats 4000000 in
set_option maxRecDepth 100000 in
theorem c_X2_shared (l : Launch) (G : va_G) (ad : Nat → Nat) (C V : Nat) (cI cZ : ClassId) (p0 : Int32) (p1 : Int32) (u : CS) (post : Int32 → CS → Prop) (hw : wp_X2_shared C V p0 p1 u post) : CtI l yX2_shared wsX2_shared ({ frames := 2, cells := 0, slots := 0, locals := 48 }) G (ty2 cI cZ) (cw ad C V cI cZ) [.ref (ad 0), .int p0, .int p1] u post := by
  refine CtI.of (cc := cX2_shared) (maxL := 3) (rt := .int) (by decide) rfl (Nat.le_of_ble_eq_true rfl) ?_
  intro p e s m below meth c A Q hx hb hml hts hown hK hA hret ls hl hP hD hS
  have hiX0 : ∀ w ∈ u_ws RX0 TX0 11, w ∈ wsX2_shared := by decide +kernel
  have hiX2 : ∀ w ∈ u_ws RX2 TX2 6, w ∈ wsX2_shared := by decide +kernel
  have hown : s.vm.findClass RX2 = some m.cls := hown
  have hl : lv_has ls 3 [(0, .ref (ad 0)), (1, .int p0), (2, .int p1)] := hl
  unfold wp_X2_shared at hw
  refine lv_aload_n hx hb dX2_shared_0 rfl (lv_at hl 0 rfl) ?_
  refine lv_iload_n hx hb dX2_shared_1 rfl (lv_at hl 1 rfl) ?_
  refine CtI.call (As := [.int p0]) (rest := []) (c_X2_isLive l G ad C V cI cZ p0 u _ hw) ⟨hx, hb, hml, hown, hts⟩ (cwV 1 hts gX2_shared_X2_isLive rfl rfl rfl (by decide +kernel) ⟨Nat.le_of_ble_eq_true rfl, Nat.le_of_ble_eq_true rfl⟩) (va_recv hK hP (ci := 2) (q0 := 0) rfl rfl) hK hP hD hS hA rfl hl.1 rfl (Nat.le_of_ble_eq_true rfl) dX2_shared_2 ⟨Nat.zero_le _, Nat.zero_le _⟩ (fun r2 u1 H locs hw hP hD hS => ?_)
  obtain ⟨hz, hw⟩ := hw
  refine lv_if_eq (tgt := 16) hx hb dX2_shared_5 (by decide) (fun c3 => ?_) (fun c3 => ?_)
  · have hw := brN.t hw c3
    refine lv_iconst (v := (-1)) hx hb dX2_shared_16 (by decide) ?_
    exact hret (-1) u1 17 _ _ _ dX2_shared_17 rfl hw hP hD hS
  · have hw := brN.f hw c3
    refine lv_aload_n hx hb dX2_shared_8 rfl (lv_at hl 0 rfl) ?_
    refine lv_iload_n hx hb dX2_shared_9 rfl (lv_at hl 2 rfl) ?_
    refine CtI.call (As := [.int p1]) (rest := []) (c_X2_isLive l G ad C V cI cZ p1 u1 _ hw) ⟨hx, hb, hml, hown, hts⟩ (cwV 1 hts gX2_shared_X2_isLive rfl rfl rfl (by decide +kernel) ⟨Nat.le_of_ble_eq_true rfl, Nat.le_of_ble_eq_true rfl⟩) (va_recv hK hP (ci := 2) (q0 := 0) rfl rfl) hK hP hD hS hA rfl hl.1 rfl (Nat.le_of_ble_eq_true rfl) dX2_shared_10 ⟨Nat.zero_le _, Nat.zero_le _⟩ (fun r5 u4 H locs hw hP hD hS => ?_)
    obtain ⟨hz, hw⟩ := hw
    refine lv_if_ne (tgt := 18) hx hb dX2_shared_13 (by decide) (fun c6 => ?_) (fun c6 => ?_)
    · have hw := brN.f hw c6
      refine lv_aload_n hx hb dX2_shared_18 rfl (lv_at hl 0 rfl) ?_
      refine va_get (D := G) (ci := 2) (v := .ref (ad 1)) (C := RX2) (T := TX2) (N := 6) hx hb hts hiX2 hown hK hP 0 rfl rfl 0 (by decide) (hts (.fieldLink RX2 14 "TreapVersions" "store" "LTreapVersions$Store;") (by decide +kernel)) (fun _ h9 => h9) rfl dX2_shared_19 ?_
      refine CtV.call (As := []) (rest := []) (c_X0_forgetReached l G ad C V cI cZ u4 _ hw) ⟨hx, hb, hml, hown, hts⟩ (cwV 0 hts gX2_shared_X0_forgetReached rfl rfl rfl (by decide +kernel) ⟨Nat.le_of_ble_eq_true rfl, Nat.le_of_ble_eq_true rfl⟩) (va_recv hK hP (ci := 0) (q0 := 1) rfl rfl) hK hP hD hS hA rfl hl.1 rfl (Nat.le_of_ble_eq_true rfl) dX2_shared_22 ⟨Nat.zero_le _, Nat.zero_le _⟩ (fun u7 H locs hw hP hD hS => ?_)
      refine lv_aload_n hx hb dX2_shared_25 rfl (lv_at hl 0 rfl) ?_
      refine va_get (D := G) (ci := 2) (v := .ref (ad 1)) (C := RX2) (T := TX2) (N := 6) hx hb hts hiX2 hown hK hP 0 rfl rfl 0 (by decide) (hts (.fieldLink RX2 14 "TreapVersions" "store" "LTreapVersions$Store;") (by decide +kernel)) (fun _ h9 => h9) rfl dX2_shared_26 ?_
      refine lv_aload_n hx hb dX2_shared_29 rfl (lv_at hl 0 rfl) ?_
      refine va_get (D := G) (ci := 2) (v := .ref (ad 4)) (C := RX2) (T := TX2) (N := 6) hx hb hts hiX2 hown hK hP 0 rfl rfl 3 (by decide) (hts (.fieldLink RX2 31 "TreapVersions" "roots" "[I") (by decide +kernel)) (fun _ h9 => h9) rfl dX2_shared_30 ?_
      refine lv_iload_n hx hb dX2_shared_33 rfl (lv_at hl 1 rfl) ?_
      refine va_iald hx hb hK hP 4 0 rfl rfl (rdA.hin hw) dX2_shared_34 ?_
      refine lv_topi (fun z8 ez8 => ?_)
      have hw := rdA.go hw z8 ez8
      refine CtI.call (As := [.int z8]) (rest := []) (c_X0_reach l G ad C V cI cZ z8 u7 _ hw) ⟨hx, hb, hml, hown, hts⟩ (cwV 1 hts gX2_shared_X0_reach rfl rfl rfl (by decide +kernel) ⟨Nat.le_of_ble_eq_true rfl, Nat.le_of_ble_eq_true rfl⟩) (va_recv hK hP (ci := 0) (q0 := 1) rfl rfl) hK hP hD hS hA rfl hl.1 rfl (Nat.le_of_ble_eq_true rfl) dX2_shared_35 ⟨Nat.zero_le _, Nat.zero_le _⟩ (fun r10 u9 H locs hw hP hD hS => ?_)
      refine lv_pop hx hb dX2_shared_38 rfl ?_
      refine lv_aload_n hx hb dX2_shared_39 rfl (lv_at hl 0 rfl) ?_
      refine va_get (D := G) (ci := 2) (v := .ref (ad 1)) (C := RX2) (T := TX2) (N := 6) hx hb hts hiX2 hown hK hP 0 rfl rfl 0 (by decide) (hts (.fieldLink RX2 14 "TreapVersions" "store" "LTreapVersions$Store;") (by decide +kernel)) (fun _ h9 => h9) rfl dX2_shared_40 ?_
      refine va_get (D := G) (ci := 0) (v := .ref (ad 10)) (C := RX0) (T := TX0) (N := 11) hx hb hts hiX0 hown hK hP 1 rfl rfl 6 (by decide) (hts (.fieldLink RX2 88 "TreapVersions$Store" "count" "[I") (by decide +kernel)) (fun _ h9 => h9) rfl dX2_shared_43 ?_
      refine lv_aload_n hx hb dX2_shared_46 rfl (lv_at hl 0 rfl) ?_
      refine va_get (D := G) (ci := 2) (v := .ref (ad 4)) (C := RX2) (T := TX2) (N := 6) hx hb hts hiX2 hown hK hP 0 rfl rfl 3 (by decide) (hts (.fieldLink RX2 31 "TreapVersions" "roots" "[I") (by decide +kernel)) (fun _ h9 => h9) rfl dX2_shared_47 ?_
      refine lv_iload_n hx hb dX2_shared_50 rfl (lv_at hl 2 rfl) ?_
      refine va_iald hx hb hK hP 4 0 rfl rfl (rdA.hin hw) dX2_shared_51 ?_
      refine lv_topi (fun z11 ez11 => ?_)
      have hw := rdA.go hw z11 ez11
      refine va_iald hx hb hK hP 10 0 rfl rfl (rdA.hin hw) dX2_shared_52 ?_
      refine lv_topi (fun z12 ez12 => ?_)
      have hw := rdA.go hw z12 ez12
      refine lv_aload_n hx hb dX2_shared_53 rfl (lv_at hl 0 rfl) ?_
      refine va_get (D := G) (ci := 2) (v := .ref (ad 1)) (C := RX2) (T := TX2) (N := 6) hx hb hts hiX2 hown hK hP 0 rfl rfl 0 (by decide) (hts (.fieldLink RX2 14 "TreapVersions" "store" "LTreapVersions$Store;") (by decide +kernel)) (fun _ h9 => h9) rfl dX2_shared_54 ?_
      refine lv_aload_n hx hb dX2_shared_57 rfl (lv_at hl 0 rfl) ?_
      refine va_get (D := G) (ci := 2) (v := .ref (ad 4)) (C := RX2) (T := TX2) (N := 6) hx hb hts hiX2 hown hK hP 0 rfl rfl 3 (by decide) (hts (.fieldLink RX2 31 "TreapVersions" "roots" "[I") (by decide +kernel)) (fun _ h9 => h9) rfl dX2_shared_58 ?_
      refine lv_iload_n hx hb dX2_shared_61 rfl (lv_at hl 2 rfl) ?_
      refine va_iald hx hb hK hP 4 0 rfl rfl (rdA.hin hw) dX2_shared_62 ?_
      refine lv_topi (fun z13 ez13 => ?_)
      have hw := rdA.go hw z13 ez13
      refine CtI.call (As := [.int z13]) (rest := [.int z12]) (c_X0_reach l G ad C V cI cZ z13 u9 _ hw) ⟨hx, hb, hml, hown, hts⟩ (cwV 1 hts gX2_shared_X0_reach rfl rfl rfl (by decide +kernel) ⟨Nat.le_of_ble_eq_true rfl, Nat.le_of_ble_eq_true rfl⟩) (va_recv hK hP (ci := 0) (q0 := 1) rfl rfl) hK hP hD hS hA rfl hl.1 rfl (Nat.le_of_ble_eq_true rfl) dX2_shared_63 ⟨Nat.zero_le _, Nat.zero_le _⟩ (fun r15 u14 H locs hw hP hD hS => ?_)
      refine lv_isub hx hb dX2_shared_66 ?_
      refine lv_topi (fun z16 ez16 => ?_)
      have hw := nmI.go hw z16 ez16
      exact hret z16 u14 67 _ _ _ dX2_shared_67 rfl hw hP hD hS
    · have hw := brN.t hw c6
      refine lv_iconst (v := (-1)) hx hb dX2_shared_16 (by decide) ?_
      exact hret (-1) u4 17 _ _ _ dX2_shared_17 rfl hw hP hD hS
set_option maxHeartbeats 4000000 in
set_option maxRecDepth 100000 in
theorem c_X2_nodes (l : Launch) (G : va_G) (ad : Nat → Nat) (C V : Nat) (cI cZ : ClassId) (u : CS) (post : Int32 → CS → Prop) (hw : wp_X2_nodes C V u post) : CtI l yX2_nodes wsX2_nodes ({ frames := 3, cells := 0, slots := 0, locals := 70 }) G (ty2 cI cZ) (cw ad C V cI cZ) [.ref (ad 0)] u post := by
  refine CtI.of (cc := cX2_nodes) (maxL := 1) (rt := .int) (by decide) rfl (Nat.le_of_ble_eq_true rfl) ?_
  intro p e s m below meth c A Q hx hb hml hts hown hK hA hret ls hl hP hD hS
  have hown : s.vm.findClass RX2 = some m.cls := hown
  have hl : lv_has ls 1 [(0, .ref (ad 0))] := hl
  unfold wp_X2_nodes at hw
  refine lv_aload_n hx hb dX2_nodes_0 rfl (lv_at hl 0 rfl) ?_
  refine CtI.call (As := []) (rest := []) (c_X2_reachLive l G ad C V cI cZ u _ hw) ⟨hx, hb, hml, hown, hts⟩ (cwV 0 hts gX2_nodes_X2_reachLive rfl rfl rfl (by decide +kernel) ⟨Nat.le_of_ble_eq_true rfl, Nat.le_of_ble_eq_true rfl⟩) (va_recv hK hP (ci := 2) (q0 := 0) rfl rfl) hK hP hD hS hA rfl hl.1 rfl (Nat.le_of_ble_eq_true rfl) dX2_nodes_1 ⟨Nat.zero_le _, Nat.zero_le _⟩ (fun r2 u1 H locs hw hP hD hS => ?_)
  exact hret r2 u1 4 _ _ _ dX2_nodes_4 rfl hw hP hD hS
set_option maxHeartbeats 4000000 in
set_option maxRecDepth 100000 in
theorem c_X2_used (l : Launch) (G : va_G) (ad : Nat → Nat) (C V : Nat) (cI cZ : ClassId) (u : CS) (post : Int32 → CS → Prop) (hw : wp_X2_used C V u post) : CtI l yX2_used wsX2_used ({ frames := 0, cells := 0, slots := 0, locals := 0 }) G (ty2 cI cZ) (cw ad C V cI cZ) [.ref (ad 0)] u post := by
  refine CtI.of (cc := cX2_used) (maxL := 1) (rt := .int) (by decide) rfl (Nat.le_of_ble_eq_true rfl) ?_
  intro p e s m below meth c A Q hx hb hml hts hown hK hA hret ls hl hP hD hS
  have hiX0 : ∀ w ∈ u_ws RX0 TX0 11, w ∈ wsX2_used := by decide +kernel
  have hiX2 : ∀ w ∈ u_ws RX2 TX2 6, w ∈ wsX2_used := by decide +kernel
  have hown : s.vm.findClass RX2 = some m.cls := hown
  have hl : lv_has ls 1 [(0, .ref (ad 0))] := hl
  unfold wp_X2_used at hw
  refine lv_aload_n hx hb dX2_used_0 rfl (lv_at hl 0 rfl) ?_
  refine va_get (D := G) (ci := 2) (v := .ref (ad 1)) (C := RX2) (T := TX2) (N := 6) hx hb hts hiX2 hown hK hP 0 rfl rfl 0 (by decide) (hts (.fieldLink RX2 14 "TreapVersions" "store" "LTreapVersions$Store;") (by decide +kernel)) (fun _ h9 => h9) rfl dX2_used_1 ?_
  refine va_get (D := G) (ci := 0) (v := .int (u 6 0)) (C := RX0) (T := TX0) (N := 11) hx hb hts hiX0 hown hK hP 1 rfl rfl 7 (by decide) (hts (.fieldLink RX2 128 "TreapVersions$Store" "usedPlaces" "I") (by decide +kernel)) (fun _ h9 => h9) rfl dX2_used_4 ?_
  refine lv_topi (fun z1 ez1 => ?_)
  have hw := nmI.go hw z1 ez1
  exact hret z1 u 7 _ _ _ dX2_used_7 rfl hw hP hD hS
set_option maxHeartbeats 4000000 in
set_option maxRecDepth 100000 in
theorem c_X2_sweeps (l : Launch) (G : va_G) (ad : Nat → Nat) (C V : Nat) (cI cZ : ClassId) (u : CS) (post : Int32 → CS → Prop) (hw : wp_X2_sweeps C V u post) : CtI l yX2_sweeps wsX2_sweeps ({ frames := 0, cells := 0, slots := 0, locals := 0 }) G (ty2 cI cZ) (cw ad C V cI cZ) [.ref (ad 0)] u post := by
  refine CtI.of (cc := cX2_sweeps) (maxL := 1) (rt := .int) (by decide) rfl (Nat.le_of_ble_eq_true rfl) ?_
  intro p e s m below meth c A Q hx hb hml hts hown hK hA hret ls hl hP hD hS
  have hiX2 : ∀ w ∈ u_ws RX2 TX2 6, w ∈ wsX2_sweeps := by decide +kernel
  have hown : s.vm.findClass RX2 = some m.cls := hown
  have hl : lv_has ls 1 [(0, .ref (ad 0))] := hl
  unfold wp_X2_sweeps at hw
  refine lv_aload_n hx hb dX2_sweeps_0 rfl (lv_at hl 0 rfl) ?_
  refine va_get (D := G) (ci := 2) (v := .int (u 15 0)) (C := RX2) (T := TX2) (N := 6) hx hb hts hiX2 hown hK hP 0 rfl rfl 5 (by decide) (hts (.fieldLink RX2 131 "TreapVersions" "sweepCount" "I") (by decide +kernel)) (fun _ h9 => h9) rfl dX2_sweeps_1 ?_
  refine lv_topi (fun z1 ez1 => ?_)
  have hw := nmI.go hw z1 ez1
  exact hret z1 u 4 _ _ _ dX2_sweeps_4 rfl hw hP hD hS
