section LawEntry
set_option maxHeartbeats 4000000 in
set_option maxRecDepth 100000 in
/-- from the entry, for every script of at most 2051 ints, the law comes to its end with true -/
theorem whole_start {p : Program} {e : Env} {s : State} {m : MethodId} {below : List Frame} {meth : Method} {c : Code} (l : Launch) (hlt : l.stackTraces = false) {b L : Nat} {xs : Nat → Int32} (hL : L ≤ 2051) (C0 : lw_At p s m meth c b L xs) : W p l e room_1 s m #[Value.ref b] below meth c s.heap [] 0 0 (lw_Z below #[Value.ref b] s) (entryFrame m ([Value.ref b] : List Value).toArray 7) := by
  obtain ⟨hx, hb, hr, hml, hown, hts0, hX, hbl, hlocks, hgv⟩ := id C0
  have hXI := xi_start hts0 hgv
  have hts : ∀ w ∈ wsL_law, w.before #[Value.ref b] s = true := fun w h => hts0 w (wsL_law_in w h)
  have hown : s.vm.findClass RL = some m.cls := hown
  have S9 : CallFix p m c cL_law 7 s #[Value.ref b] wsL_law RL := ⟨hx, hb, hml, hown, hts⟩
  have hA : ∀ q : Nat, s.heap.size ≤ q → (fun q : Nat => s.heap.size ≤ q) q := fun _ h => h
  obtain ⟨c0, iS0, hKn0⟩ := u_known (C := RX0) (T := TX0) (N := 11) (n := 11) hts inlX0 (hts (.instantiable RX0 11) (by decide +kernel))
  obtain ⟨c1, iS1, hKn1⟩ := u_known (C := RX1) (T := TX1) (N := 3) (n := 3) hts inlX1 (hts (.instantiable RX1 3) (by decide +kernel))
  obtain ⟨c2, iS2, hKn2⟩ := u_known (C := RX2) (T := TX2) (N := 6) (n := 6) hts inlX2 (hts (.instantiable RX2 6) (by decide +kernel))
  obtain ⟨c3, iS3, hKn3⟩ := u_known (C := RX3) (T := TX3) (N := 24) (n := 24) hts inlX3 (hts (.instantiable RX3 24) (by decide +kernel))
  obtain ⟨cI, aI⟩ := arr_known (ty := .int) (hts (.arrayClass .int) (by decide +kernel)) (fun _ h => h)
  obtain ⟨cZ, aZ⟩ := arr_known (ty := .boolean) (hts (.arrayClass .boolean) (by decide +kernel)) (fun _ h => h)
  obtain ⟨cL, aL⟩ := arr_known (ty := .long) (hts (.arrayClass .long) (by decide +kernel)) (fun _ h => h)
  obtain ⟨G, hKc⟩ : ∃ G : va_G, ∀ (k : Nat) (q : vw_C), vwCl[k]? = some q → u_Kn s q.1 q.2.1 q.2.2 (G.1 k) (G.2 k) := by
    refine ⟨(fun k => match k with | 0 => c0 | 1 => c1 | 2 => c2 | _ => c3, fun k => match k with | 0 => iS0 | 1 => iS1 | 2 => iS2 | _ => iS3), ?_⟩
    intro k q hq
    match k, hq with
    | 0, hq => cases hq; exact hKn0
    | 1, hq => cases hq; exact hKn1
    | 2, hq => cases hq; exact hKn2
    | 3, hq => cases hq; exact hKn3
    | k + 4, hq => simp [vwCl] at hq
  have hK : va_K G vwCl (ty3 cI cZ cL) s := by
    refine ⟨hKc, fun k q hq => ?_⟩
    match k, hq with
    | 0, hq => cases hq; exact aI
    | 1, hq => cases hq; exact aZ
    | 2, hq => cases hq; exact aL
    | k + 3, hq => simp [ty3] at hq
  have hK2 := hK.sub (tys' := ty2 cI cZ) [0, 1] rfl
  have hS : va_S (fun q : Nat => s.heap.size ≤ q) s.heap s.heap [] := va_S.rf
  have hP : va_P G vwCl [] s.heap := fun k q h => by simp at h
  have hD : va_D (fun q : Nat => s.heap.size ≤ q) [] := ⟨fun i j p q h => by simp at h, fun k q h => by simp at h⟩
  have hl := lv_entry ([.ref b]) (n := 7) (Nat.le_of_ble_eq_true rfl)
  rw [lg_entry_eq]
  generalize (lg_sl ([.ref b]) ++ List.replicate (7 - (lg_sl ([.ref b])).length) Slot.unset).toArray = ls at hl ⊢
  have hl : lv_has ls 7 [(0, .ref b)] := hl
  refine va_new (ci := 2) (fs := [.null, .null, .null, .null, .int 0, .int 0]) (C := RX2) (T := TX2) (N := 6) hx hb hts inlX2 tyX2 tyX2_ok hown (hts (.classLink RL 8 RX2) (by decide +kernel)) (hts (.instantiable RX2 6) (by decide +kernel)) (hts (.initialized RX2) (by decide +kernel)) hK hP hD hS hA rfl (fun j hj => by rcases (show j = 0 ∨ j = 1 ∨ j = 2 ∨ j = 3 ∨ j = 4 ∨ j = 5 by omega) with rfl | rfl | rfl | rfl | rfl | rfl <;> rfl) (Nat.le_of_ble_eq_true rfl) (Nat.le_of_ble_eq_true rfl) dL_law_0 (fun qx H hP hD hS => ?_)
  have hP : va_P G vwCl (tv0 qx) H := hP
  have hD : va_D (fun q : Nat => s.heap.size ≤ q) (tv0 qx) := hD
  refine W.widen (k := 1) (n := 6) (Nat.le_refl _) (Nat.le_refl _) ?_
  refine lv_dup hx hb dL_law_3 rfl ?_
  refine lv_aload_n hx hb dL_law_4 rfl (lv_at hl 0 rfl) ?_
  refine lv_iconst (v := 0) hx hb dL_law_5 (by decide) ?_
  refine cell_call (k := 0) S9 hX hbl hL (by decide) hP hS hl.1 (Nat.le_of_ble_eq_true rfl) dL_law_6 ⟨Nat.le_of_ble_eq_true rfl, Nat.le_of_ble_eq_true rfl⟩ (fun H locs hP hS => ?_)
  refine lv_aload_n hx hb dL_law_9 rfl (lv_at hl 0 rfl) ?_
  refine lv_iconst (v := 1) hx hb dL_law_10 (by decide) ?_
  refine cell_call (k := 1) S9 hX hbl hL (by decide) hP hS hl.1 (Nat.le_of_ble_eq_true rfl) dL_law_11 ⟨Nat.le_of_ble_eq_true rfl, Nat.le_of_ble_eq_true rfl⟩ (fun H locs hP hS => ?_)
  refine lv_aload_n hx hb dL_law_14 rfl (lv_at hl 0 rfl) ?_
  refine lv_iconst (v := 2) hx hb dL_law_15 (by decide) ?_
  refine cell_call (k := 2) S9 hX hbl hL (by decide) hP hS hl.1 (Nat.le_of_ble_eq_true rfl) dL_law_16 ⟨Nat.le_of_ble_eq_true rfl, Nat.le_of_ble_eq_true rfl⟩ (fun H locs hP hS => ?_)
  have hFc := free_of hD hS hA
  refine va_callv (va_runI (As := [.int (cellV L xs 0), .int (cellV L xs 1), .int (cellV L xs 2)]) (rest := [.ref qx]) S9 (c_X2_init l G cI cZ qx H.size (cellV L xs 0) (cellV L xs 1) (cellV L xs 2)) (cwI 3 hts gL_law_X2_init rfl rfl rfl (hts (.initialized RX2) (by decide +kernel)) (hts (.methodLink RL 32 yX2_init) (by decide +kernel)) (hts (.instanceMethod yX2_init) (by decide +kernel)) rfl (by decide +kernel) ⟨Nat.le_of_ble_eq_true rfl, Nat.le_of_ble_eq_true rfl⟩) ⟨fun a U g mk q => by obtain ⟨q0, q1, qP, qK, qD⟩ := q; exact ⟨q0, q1, qP, va_K.moved (u := U) (U := U.calling g mk a) (Vm.Alike.refl U.vm) qK, qD⟩, fun U hU hW => ⟨rfl, by rw [hU], by rw [hU]; exact hP, va_K.moved hW.alike hK2, hD.weaken (fun _ _ _ _ => trivial)⟩⟩ rfl rfl hl.1 rfl (lv_room (Nat.le_of_ble_eq_true rfl)) dL_law_19 ⟨Nat.le_of_ble_eq_true rfl, Nat.le_of_ble_eq_true rfl⟩) hS (fun q _ h => hFc q h) hFc (fun ad t H1 locs ht hvm hw hB hz1 hk1 hS => ?_)
  replace hw : ad 0 = qx := hw
  subst hw
  obtain ⟨hP1, hD1⟩ := hB
  rw [ht] at hP1
  have hD1 := hD1.weaken (fun k q _ h => hFc q.1 h)
  have hCb := clC_b (cellV L xs 0)
  have hVb := clV_b (cellV L xs 1)
  clear hP hD hFc
  refine lv_astore_n (lv' := [(1, .ref (ad 0)), (0, .ref b)]) hx hb dL_law_22 rfl hl (by decide) rfl (fun ls hl => ?_)
  refine va_new (ci := 3) (fs := [.int 0, .int 0, .int 0, .int 0, .int 0, .int 0, .null, .null, .null, .null, .null, .null, .null, .null, .int 0, .null, .null, .int 0, .int 0, .int 0, .int 0, .int 0, .int 0, .null]) (C := RX3) (T := TX3) (N := 24) hx hb hts inlX3 tyX3 tyX3_ok hown (hts (.classLink RL 35 RX3) (by decide +kernel)) (hts (.instantiable RX3 24) (by decide +kernel)) (hts (.initialized RX3) (by decide +kernel)) hK hP1 hD1 hS hA rfl (fun j hj => by rcases (show j = 0 ∨ j = 1 ∨ j = 2 ∨ j = 3 ∨ j = 4 ∨ j = 5 ∨ j = 6 ∨ j = 7 ∨ j = 8 ∨ j = 9 ∨ j = 10 ∨ j = 11 ∨ j = 12 ∨ j = 13 ∨ j = 14 ∨ j = 15 ∨ j = 16 ∨ j = 17 ∨ j = 18 ∨ j = 19 ∨ j = 20 ∨ j = 21 ∨ j = 22 ∨ j = 23 by omega) with rfl | rfl | rfl | rfl | rfl | rfl | rfl | rfl | rfl | rfl | rfl | rfl | rfl | rfl | rfl | rfl | rfl | rfl | rfl | rfl | rfl | rfl | rfl | rfl <;> rfl) (Nat.le_of_ble_eq_true rfl) (Nat.le_of_ble_eq_true rfl) dL_law_23 (fun qm H hP hD hS => ?_)
  have hP : va_P G vwCl (cw ad (clC (cellV L xs 0)) (clV (cellV L xs 1)) cI cZ (cs0 (cellV L xs 2)) ++ md0 qm) H := hP
  have hD : va_D (fun q : Nat => s.heap.size ≤ q) (cw ad (clC (cellV L xs 0)) (clV (cellV L xs 1)) cI cZ (cs0 (cellV L xs 2)) ++ md0 qm) := hD
  refine W.widen (k := 16) (n := 469) (Nat.le_refl _) (Nat.le_refl _) ?_
  refine lv_dup hx hb dL_law_26 rfl ?_
  refine lv_aload_n hx hb dL_law_27 rfl (lv_at hl 1 rfl) ?_
  refine lv_iconst (v := 0) hx hb dL_law_28 (by decide) ?_
  refine cell_call (k := 0) S9 hX hbl hL (by decide) hP hS hl.1 (Nat.le_of_ble_eq_true rfl) dL_law_29 ⟨Nat.le_of_ble_eq_true rfl, Nat.le_of_ble_eq_true rfl⟩ (fun H locs hP hS => ?_)
  refine lv_aload_n hx hb dL_law_32 rfl (lv_at hl 1 rfl) ?_
  refine lv_iconst (v := 1) hx hb dL_law_33 (by decide) ?_
  refine cell_call (k := 1) S9 hX hbl hL (by decide) hP hS hl.1 (Nat.le_of_ble_eq_true rfl) dL_law_34 ⟨Nat.le_of_ble_eq_true rfl, Nat.le_of_ble_eq_true rfl⟩ (fun H locs hP hS => ?_)
  refine lv_aload_n hx hb dL_law_37 rfl (lv_at hl 1 rfl) ?_
  refine lv_iconst (v := 2) hx hb dL_law_38 (by decide) ?_
  refine cell_call (k := 2) S9 hX hbl hL (by decide) hP hS hl.1 (Nat.le_of_ble_eq_true rfl) dL_law_39 ⟨Nat.le_of_ble_eq_true rfl, Nat.le_of_ble_eq_true rfl⟩ (fun H locs hP hS => ?_)
  have hPx := va_P_left hP
  have hPm := va_P_right hP
  have hDm := va_D_right hD
  have hDp : va_D (fun q : Nat => s.heap.size ≤ q) (md0 qm ++ cw ad (clC (cellV L xs 0)) (clV (cellV L xs 1)) cI cZ (cs0 (cellV L xs 2))) := va_D_perm hD (by rw [List.map_append, List.map_append]; exact List.perm_append_comm)
  have hFc := free_of hDm hS hA
  refine va_callv (va_runI (As := [.int (cellV L xs 0), .int (cellV L xs 1), .int (cellV L xs 2)]) (rest := [.ref qm]) S9 (c_X3_init l G cI cZ qm H.size (cellV L xs 0) (cellV L xs 1) (cellV L xs 2)) (cwI 3 hts gL_law_X3_init rfl rfl rfl (hts (.initialized RX3) (by decide +kernel)) (hts (.methodLink RL 37 yX3_init) (by decide +kernel)) (hts (.instanceMethod yX3_init) (by decide +kernel)) rfl (by decide +kernel) ⟨Nat.le_of_ble_eq_true rfl, Nat.le_of_ble_eq_true rfl⟩) ⟨fun a U g mk q => by obtain ⟨q0, q1, qP, qK, qD⟩ := q; exact ⟨q0, q1, qP, va_K.moved (u := U) (U := U.calling g mk a) (Vm.Alike.refl U.vm) qK, qD⟩, fun U hU hW => ⟨rfl, by rw [hU], by rw [hU]; exact hPm, va_K.moved hW.alike hK2, hDm.weaken (fun _ _ _ _ => trivial)⟩⟩ rfl rfl hl.1 rfl (lv_room (Nat.le_of_ble_eq_true rfl)) dL_law_42 ⟨Nat.le_of_ble_eq_true rfl, Nat.le_of_ble_eq_true rfl⟩) hS (fun q _ h => hFc q h) hFc (fun w t H1 locs ht hvm hw hB hz1 hk1 hS => ?_)
  obtain ⟨am, fr⟩ := w
  obtain ⟨hw, hfr⟩ := hw
  replace hw : am 0 = qm := hw
  replace hfr : ∀ j, j < 8 → fr j = -1 := hfr
  subst hw
  obtain ⟨hP1, hD1⟩ := hB
  rw [ht] at hP1
  generalize eC : clC (cellV L xs 0) = C at hCb hPx hDp hP1 hD1 hP hD
  generalize eV : clV (cellV L xs 1) = V at hVb hPx hDp hP1 hD1 hP hD
  generalize cellV L xs 2 = sd at hPx hDp hP1 hD1 hP hD
  have hsim := sim0 hCb hVb sd hfr
  replace hP1 : va_P G vwCl (mw am cI cZ (ms0 C V sd fr)) H1 := hP1
  replace hD1 : va_D (va_A (md0 (am 0)) H.size) (mw am cI cZ (ms0 C V sd fr)) := hD1
  have hPx1 := frame_b hPx hDp hk1
  have hD2 : va_D (fun q : Nat => s.heap.size ≤ q) (cw ad C V cI cZ (cs0 sd) ++ mw am cI cZ (ms0 C V sd fr)) := by
    refine (va_D_left hD).app (hD1.weaken (fun k q _ h => hFc q.1 h)) (fun i j p q hi hj e9 => ?_)
    have hq := hD1.2 j q hj
    rw [← e9] at hq
    rcases hq with ⟨k9, e8, h9⟩ | h9
    · obtain ⟨hk9, -⟩ := List.getElem?_eq_some_iff.mp h9
      have hi9 := (List.getElem?_eq_some_iff.mp hi).1
      have := hD.1 i ((cw ad C V cI cZ (cs0 sd)).length + k9) p (p.1, e8) (by rw [List.getElem?_append_left hi9]; exact hi) (by rw [List.getElem?_append_right (by omega), show (cw ad C V cI cZ (cs0 sd)).length + k9 - (cw ad C V cI cZ (cs0 sd)).length = k9 by omega]; exact h9) rfl
      omega
    · have := vx_lt hPx hi
      omega
  have hP2 := hPx1.app hP1
  clear hP hD hPx hPm hDm hDp hFc hP1 hD1 hPx1
  refine lv_astore_n (lv' := [(2, .ref (am 0)), (1, .ref (ad 0)), (0, .ref b)]) hx hb dL_law_45 rfl hl (by decide) rfl (fun ls hl => ?_)
  refine lv_iconst (v := 1) hx hb dL_law_46 (by decide) ?_
  refine va_newI (atype := .long) (ty := .long) (N' := 1) (a0 := (1, .inr (.inl (fun _ => 0)))) hx hb (hts (.arrayClass .long) (by decide +kernel)) rfl hK hP2 hD2 hS hA 2 rfl (fun _ h => h) (fun _ => rfl) rfl (by decide) (by decide) (Nat.le_of_ble_eq_true rfl) (Nat.le_of_ble_eq_true rfl) dL_law_47 (fun ao H hP hD hS => ?_)
  refine W.widen (k := 28) (n := 1830) (Nat.le_refl _) (Nat.le_refl _) ?_
  have hPx := va_P_left (va_P_left hP)
  have hPm := va_P_right (va_P_left hP)
  have hPo := va_P_right hP
  have hDD : ∀ u v f, va_D (fun q : Nat => s.heap.size ≤ q) (cw ad C V cI cZ u ++ (mw am cI cZ v ++ [oc ao cL f])) := fun u v f => va_D_adr hD rfl
  refine lv_astore_n (lv' := [(3, .ref ao), (2, .ref (am 0)), (1, .ref (ad 0)), (0, .ref b)]) hx hb dL_law_49 rfl hl (by decide) rfl (fun ls hl => ?_)
  refine lv_iconst (v := 3) hx hb dL_law_50 (by decide) ?_
  refine lv_istore (lv' := [(4, .int 3), (3, .ref ao), (2, .ref (am 0)), (1, .ref (ad 0)), (0, .ref b)]) hx hb dL_law_51 hl (by decide) rfl (fun ls hl => ?_)
  exact law_loop (G := G) (ad := ad) (am := am) (C := C) (V := V) (cI := cI) (cZ := cZ) (ao := ao) (cL := cL) ⟨S9, hX, hbl, hL, hK, hXI, hDD⟩ hlt hr hlocks 513 0 (by omega) (by omega) H _ ls ⟨cs0 sd, ms0 C V sd fr, fun _ => 0, hsim, hPx, hPm, hPo, hS, lv_sub hl [0, 4, 3, 2, 1] rfl⟩
end LawEntry
