/-! a world in two parts: the callee's and the rest, which stays -/
section FrameW
theorem va_D_iff {A : Nat → Prop} {ws : va_W} : va_D A ws ↔ (ws.map Prod.fst).Nodup ∧ ∀ q ∈ ws, A q.1 := by
  constructor
  · intro h
    refine ⟨?_, fun q hq => ?_⟩
    · refine List.pairwise_iff_getElem.mpr (fun i j hi hj hij hE => ?_)
      rw [List.getElem_map, List.getElem_map] at hE
      rw [List.length_map] at hi hj
      have := h.1 i j _ _ (List.getElem?_eq_getElem hi) (List.getElem?_eq_getElem hj) hE
      omega
    · obtain ⟨k, hk⟩ := List.mem_iff_getElem?.mp hq
      exact h.2 k q hk
  · intro ⟨h1, h2⟩
    refine ⟨fun i j p q hi hj e => ?_, fun k q hk => h2 q (List.mem_of_getElem? hk)⟩
    have h3 := List.pairwise_iff_getElem.mp h1
    obtain ⟨hi1, hi2⟩ := List.getElem?_eq_some_iff.mp hi
    obtain ⟨hj1, hj2⟩ := List.getElem?_eq_some_iff.mp hj
    rcases Nat.lt_trichotomy i j with h | h | h
    · refine absurd ?_ (h3 i j (by rw [List.length_map]; exact hi1) (by rw [List.length_map]; exact hj1) h)
      rw [List.getElem_map, List.getElem_map, hi2, hj2, e]
    · exact h
    · refine absurd ?_ (h3 j i (by rw [List.length_map]; exact hj1) (by rw [List.length_map]; exact hi1) h)
      rw [List.getElem_map, List.getElem_map, hi2, hj2, e]
theorem va_D_perm {A : Nat → Prop} {w1 w2 : va_W} (h : va_D A w1) (hp : (w2.map Prod.fst).Perm (w1.map Prod.fst)) : va_D A w2 := by
  rw [va_D_iff] at h ⊢
  refine ⟨(hp.nodup_iff).mpr h.1, fun q hq => ?_⟩
  have h3 := hp.subset (List.mem_map_of_mem (f := Prod.fst) hq)
  obtain ⟨q', hq', e⟩ := List.mem_map.mp h3
  rw [← e]
  exact h.2 q' hq'
theorem va_D_adr {A : Nat → Prop} {w1 w2 : va_W} (h : va_D A w1) (hp : w2.map Prod.fst = w1.map Prod.fst) : va_D A w2 := va_D_perm h (by rw [hp])
theorem va_D_left {A : Nat → Prop} {w1 w2 : va_W} (h : va_D A (w1 ++ w2)) : va_D A w1 := by
  rw [va_D_iff] at h ⊢
  rw [List.map_append] at h
  exact ⟨(List.nodup_append.mp h.1).1, fun q hq => h.2 q (List.mem_append_left _ hq)⟩
theorem va_D_right {A : Nat → Prop} {w1 w2 : va_W} (h : va_D A (w1 ++ w2)) : va_D A w2 := by
  rw [va_D_iff] at h ⊢
  rw [List.map_append] at h
  exact ⟨(List.nodup_append.mp h.1).2.1, fun q hq => h.2 q (List.mem_append_right _ hq)⟩
/-- the rest's cells aren't the callee's -/
theorem frame_b {A : Nat → Prop} {G : va_G} {cl : List vw_C} {wa wb : va_W} {H H1 : Heap} (hPb : va_P G cl wb H) (hD : va_D A (wa ++ wb)) (hk : ∀ q : Nat, q < H.size → ¬ va_A wa H.size q → H1[q]? = H[q]?) : va_P G cl wb H1 := by
  refine hPb.kept (fun k q hkq => hk q.1 (vx_lt hPb hkq) (fun h => ?_))
  rcases h with ⟨k', e, h⟩ | h
  · have h1 : k' < wa.length := (List.getElem?_eq_some_iff.mp h).1
    have := hD.1 k' (wa.length + k) (q.1, e) q (by rw [List.getElem?_append_left h1]; exact h) (by rw [List.getElem?_append_right (by omega), show wa.length + k - wa.length = k by omega]; exact hkq) rfl
    omega
  · have := vx_lt hPb hkq
    omega
theorem va_P_left {G : va_G} {cl : List vw_C} {w1 w2 : va_W} {H : Heap} (h : va_P G cl (w1 ++ w2) H) : va_P G cl w1 H := fun k q hk => h k q (by
  rw [List.getElem?_append_left (List.getElem?_eq_some_iff.mp hk).1]; exact hk)
theorem va_P_right {G : va_G} {cl : List vw_C} {w1 w2 : va_W} {H : Heap} (h : va_P G cl (w1 ++ w2) H) : va_P G cl w2 H := fun k q hk => h (w1.length + k) q (by
  rw [List.getElem?_append_right (by omega), show w1.length + k - w1.length = k by omega]; exact hk)
theorem va_A_app {wa wb : va_W} {sz : Nat} : ∀ q, va_A wa sz q → va_A (wa ++ wb) sz q := by
  intro q h
  rcases h with ⟨k, e, h⟩ | h
  · exact Or.inl ⟨k, e, by rw [List.getElem?_append_left (List.getElem?_eq_some_iff.mp h).1]; exact h⟩
  · exact Or.inr h
section CallFrame
variable {p : Program} {l : Launch} {e : Env} {R : Room} {s : State} {m : MethodId} {args : Array Value} {below : List Frame} {meth : Method} {c : Code} {H : Heap} {locs : List Loc} {cells slots : Nat} {Q : State → Prop}
variable {y : MethodName} {bytes cc : ByteArray} {maxL nL n index pc : Nat} {ret : Option FieldType} {ws Ts : List Cond} {rm : Room} {own C : String} {b : Addr} {As rest st : List Value} {ls : Array Slot} {A : Nat → Prop} {G : va_G} {ty : List (ClassId × FieldType)} {wf : CS → va_W} {u0 : CS} {wb : va_W}
theorem CtI.callF {post : Int32 → CS → Prop} (hM : CtI l y ws rm G ty wf (.ref b :: As) u0 post) (S : CallFix p m c cc nL s args Ts own) (cw : CallW R s args own C index y bytes maxL ret ws rm 0 0 n) (hrecv : ∃ cell : Cell, H[b]? = some cell ∧ cell.vm.isStatics = false ∧ s.vm.findClass C = some cell.cls)
    (hK : va_K G vwCl ty s) (hP : va_P G vwCl (wf u0) H) (hPb : va_P G vwCl wb H) (hD : va_D A (wf u0 ++ wb)) (hS : va_S A s.heap H locs) (hA : ∀ q, s.heap.size ≤ q → A q) (hn : As.length = n) (hsize : ls.size = nL) (hst : st = As.reverse ++ .ref b :: rest) (hW : (rest.map fun v => v.category).sum ≤ 8) (hdg : decode cc pc = .ok (.invokevirtual index, 3)) (hf : cells ≤ R.cells ∧ slots ≤ R.slots)
    (kk : ∀ (r : Int32) (u : CS) (H1 : Heap) (locs1 : List Loc), post r u → va_P G vwCl (wf u) H1 → va_P G vwCl wb H1 → va_S A s.heap H1 locs1 → W p l e R s m args below meth c H1 locs1 cells slots Q (F0 m (pc + 3) ls (.int r :: rest))) : W p l e R s m args below meth c H locs cells slots Q (F0 m pc ls st) := by
  subst hst
  have hDa := va_D_left hD
  have hFc := free_of hDa hS hA
  refine va_calli (va_runV (As := As) (rest := rest) S (hM H.size) cw ⟨blind_of, hrecv, fun U hU hW => ⟨rfl, by rw [hU], by rw [hU]; exact hP, va_K.moved hW.alike hK, hDa.weaken (fun _ _ _ _ => trivial)⟩⟩ rfl hn hsize rfl (lv_room hW) hdg hf) hS (fun q _ h => hFc q h) hFc (fun r u t H1 locs1 ht hvm hw hB hz1 hk1 hS1 => ?_)
  obtain ⟨hP1, hD1⟩ := hB
  rw [ht] at hP1
  exact kk r u H1 locs1 hw hP1 (frame_b hPb hD hk1) hS1
theorem CtL.callF {post : Int64 → CS → Prop} (hM : CtL l y ws rm G ty wf (.ref b :: As) u0 post) (S : CallFix p m c cc nL s args Ts own) (cw : CallW R s args own C index y bytes maxL ret ws rm 0 0 n) (hrecv : ∃ cell : Cell, H[b]? = some cell ∧ cell.vm.isStatics = false ∧ s.vm.findClass C = some cell.cls)
    (hK : va_K G vwCl ty s) (hP : va_P G vwCl (wf u0) H) (hPb : va_P G vwCl wb H) (hD : va_D A (wf u0 ++ wb)) (hS : va_S A s.heap H locs) (hA : ∀ q, s.heap.size ≤ q → A q) (hn : As.length = n) (hsize : ls.size = nL) (hst : st = As.reverse ++ .ref b :: rest) (hW : (rest.map fun v => v.category).sum ≤ 8) (hdg : decode cc pc = .ok (.invokevirtual index, 3)) (hf : cells ≤ R.cells ∧ slots ≤ R.slots)
    (kk : ∀ (r : Int64) (u : CS) (H1 : Heap) (locs1 : List Loc), post r u → va_P G vwCl (wf u) H1 → va_P G vwCl wb H1 → va_S A s.heap H1 locs1 → W p l e R s m args below meth c H1 locs1 cells slots Q (F0 m (pc + 3) ls (.long r :: rest))) : W p l e R s m args below meth c H locs cells slots Q (F0 m pc ls st) := by
  subst hst
  have hDa := va_D_left hD
  have hFc := free_of hDa hS hA
  refine va_calll (va_runV (As := As) (rest := rest) S (hM H.size) cw ⟨blind_of, hrecv, fun U hU hW => ⟨rfl, by rw [hU], by rw [hU]; exact hP, va_K.moved hW.alike hK, hDa.weaken (fun _ _ _ _ => trivial)⟩⟩ rfl hn hsize rfl (lv_room hW) hdg hf) hS (fun q _ h => hFc q h) hFc (fun r u t H1 locs1 ht hvm hw hB hz1 hk1 hS1 => ?_)
  obtain ⟨hP1, hD1⟩ := hB
  rw [ht] at hP1
  exact kk r u H1 locs1 hw hP1 (frame_b hPb hD hk1) hS1
theorem blind_X {av : List Value} {u0 : CS} {sz : Nat} {A : Nat → Prop} : FrameBlind (va_Pc av (fun U => U.heap.size = sz ∧ va_P G vwCl (wf u0) U.heap ∧ va_K G vwCl ty U ∧ va_D (fun _ => True) (wf u0) ∧ XI A U U.heap)) := by
  intro a U g mk q
  obtain ⟨q0, q1, qP, qK, qD, qX⟩ := q
  exact ⟨q0, q1, qP, va_K.moved (u := U) (U := U.calling g mk a) (Vm.Alike.refl U.vm) qK, qD, XI.moved (u := U) (U := U.calling g mk a) (Vm.Alike.refl U.vm) qX⟩
theorem CtX.callF {post : Int32 → CS → Prop} {px : String → CS → Prop} (hM : CtX l y ws rm G ty wf (.ref b :: As) u0 post px) (S : CallFix p m c cc nL s args Ts own) (cw : CallW R s args own C index y bytes maxL ret ws rm 1 6 n) (hrecv : ∃ cell : Cell, H[b]? = some cell ∧ cell.vm.isStatics = false ∧ s.vm.findClass C = some cell.cls)
    (hK : va_K G vwCl ty s) (hP : va_P G vwCl (wf u0) H) (hPb : va_P G vwCl wb H) (hD : va_D A (wf u0 ++ wb)) (hX : XI A s s.heap) (hS : va_S A s.heap H locs) (hA : ∀ q, s.heap.size ≤ q → A q) (hn : As.length = n) (hsize : ls.size = nL) (hst : st = As.reverse ++ .ref b :: rest) (hW : (rest.map fun v => v.category).sum ≤ 8) (hdg : decode cc pc = .ok (.invokevirtual index, 3)) (hf : cells + 1 ≤ R.cells ∧ slots + 6 ≤ R.slots)
    (kx : ∀ (E : String) (ce : Cell) (q9 : Addr) (u : CS) (H1 : Heap) (locs1 : List Loc), px E u → va_P G vwCl (wf u) H1 → va_P G vwCl wb H1 → va_S A s.heap H1 locs1 → H1[q9]? = some ce → ce.vm = .none → s.vm.findClass E = some ce.cls → vx_W p l e R s m args below meth c H1 locs1 (cells + 1) (slots + 6) Q (F0 m pc ls rest) q9)
    (kk : ∀ (r : Int32) (u : CS) (H1 : Heap) (locs1 : List Loc), post r u → va_P G vwCl (wf u) H1 → va_P G vwCl wb H1 → va_S A s.heap H1 locs1 → W p l e R s m args below meth c H1 locs1 (cells + 1) (slots + 6) Q (F0 m (pc + 3) ls (.int r :: rest))) : W p l e R s m args below meth c H locs cells slots Q (F0 m pc ls st) := by
  subst hst
  have hDa := va_D_left hD
  have hFc := free_of hDa hS hA
  refine vx_calli (vx_runV (As := As) (rest := rest) S (hM H.size) cw ⟨blind_X, hrecv, fun U hU hW => ⟨rfl, by rw [hU], by rw [hU]; exact hP, va_K.moved hW.alike hK, hDa.weaken (fun _ _ _ _ => trivial), by rw [hU]; exact ((hX.kept hS.2.1).narrow hFc).moved hW.alike⟩⟩ rfl hn hsize rfl (lv_room hW) hdg hf) hS (fun q _ h => hFc q h) hFc (fun q _ h => hFc q h) (fun E ce q9 u t H1 locs1 ht hvm hw hB hz1 hk1 hS1 h7 h8 h9 => ?_) (fun r u t H1 locs1 ht hvm hw hB hz1 hk1 hS1 => ?_)
  · obtain ⟨e1, hP1, hD1⟩ := hB
    rw [ht] at hP1
    rw [← e1] at hw
    exact kx E ce q9 u.2 H1 locs1 hw hP1 (frame_b hPb hD hk1) hS1 h7 h8 h9
  · obtain ⟨hP1, hD1⟩ := hB
    rw [ht] at hP1
    exact kk r u H1 locs1 hw hP1 (frame_b hPb hD hk1) hS1
end CallFrame
end FrameW
