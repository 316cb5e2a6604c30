/-! the law's cases: each call of both sides -/
section LawC
theorem CtO.call {p : Program} {l : Launch} {e : Env} {R : Room} {s : State} {m : MethodId} {args : Array Value} {below : List Frame} {meth : Method} {c : Code} {H : Heap} {locs : List Loc} {cells slots : Nat} {Q : State → Prop} {y : MethodName} {bytes cc : ByteArray} {maxL nL index pc : Nat} {ret : Option FieldType} {hh : List (Nat × Nat × Nat × Nat)} {ws Ts : List Cond} {rm : Room} {own : String} {rest st : List Value} {ls : Array Slot} {A : Nat → Prop} {G : va_G} {ad : Nat → Nat} {C V : Nat} {cI cZ : ClassId} {ao : Nat} {cL : ClassId} {p0 p1 : Int32} {u0 : CS} {f0 : Nat → Int64} {post : Int32 → CS → (Nat → Int64) → Prop} {wb : va_W}
    (hM : CtO l y ws rm G ad C V cI cZ ao cL p0 p1 u0 f0 post) (S : CallFix p m c cc nL s args Ts own) (cw9 : vx_CSW R s args own index y bytes maxL ret hh ws rm 1 6 4)
    (hK : va_K G vwCl (ty3 cI cZ cL) s) (hP : va_P G vwCl (co ad C V cI cZ ao cL u0 f0) H) (hPb : va_P G vwCl wb H) (hD : va_D A (co ad C V cI cZ ao cL u0 f0 ++ wb)) (hX : XI A s s.heap) (hS : va_S A s.heap H locs) (hA : ∀ q, s.heap.size ≤ q → A q) (hsize : ls.size = nL) (hst : st = .ref ao :: .int p1 :: .int p0 :: .ref (ad 0) :: rest) (hW : (rest.map fun v => v.category).sum ≤ 8) (hdg : decode cc pc = .ok (.invokestatic index, 3)) (hf : cells + 1 ≤ R.cells ∧ slots + 6 ≤ R.slots)
    (kk : ∀ (r : Int32) (u : CS) (f : Nat → Int64) (H1 : Heap) (locs1 : List Loc), post r u f → va_P G vwCl (co ad C V cI cZ ao cL u f) H1 → va_P G vwCl wb H1 → va_S A s.heap H1 locs1 → W p l e R s m args below meth c H1 locs1 (cells + 1) (slots + 6) Q (F0 m (pc + 3) ls (.int r :: rest))) : W p l e R s m args below meth c H locs cells slots Q (F0 m pc ls st) := by
  subst hst
  have hDa := va_D_left hD
  have hFc := free_of hDa hS hA
  refine vx_calli (vx_runSX (As := [.ref (ad 0), .int p0, .int p1, .ref ao]) (rest := rest) S (hM H.size) cw9 ⟨?_, fun U hU hW => ⟨rfl, by rw [hU], by rw [hU]; exact hP, va_K.moved hW.alike hK, hDa.weaken (fun _ _ _ _ => trivial), by rw [hU]; exact ((hX.kept hS.2.1).narrow hFc).moved hW.alike⟩⟩ rfl rfl hsize rfl (lv_room hW) hdg hf) hS (fun q _ h => hFc q h) hFc (fun q _ h => h.elim) (fun E ce q9 u t H1 locs1 ht hvm hw => hw.elim) (fun r u t H1 locs1 ht hvm hw hB hz1 hk1 hS1 => ?_)
  · intro a U g mk q
    obtain ⟨q0, q1, qP, qK, qD, qX⟩ := q
    exact ⟨q0, q1, qP, va_K.moved (u := U) (U := U.calling g mk a) (Vm.Alike.refl U.vm) qK, qD, XI.moved (u := U) (U := U.calling g mk a) (Vm.Alike.refl U.vm) qX⟩
  · replace hB : va_P G vwCl (co ad C V cI cZ ao cL u.1 u.2) t.heap := hB
    rw [ht] at hB
    exact kk r u.1 u.2 H1 locs1 hw hB (frame_b hPb hD hk1) hS1
/-- 'script[i + k]' -/
theorem sld4 {p : Program} {l : Launch} {e : Env} {R : Room} {s : State} {m : MethodId} {args : Array Value} {below : List Frame} {meth : Method} {c : Code} {H : Heap} {locs : List Loc} {cells slots : Nat} {Q : State → Prop} {cc : ByteArray} {pc : Nat} {ls : Array Slot} {rest : List Value} {A : Nat → Prop} {b L i : Nat} {xs : Nat → Int32} (k : Nat) {kc : Int}
    (hx : p.tables.exec = Jvm.exec) (hb : c.code = cc) (hX : va_X b L xs s s.heap) (hbl : b < s.heap.size) (hbA : ¬ A b) (hS : va_S A s.heap H locs) (hL : L ≤ 2051) (hi : i + k < L) (hk : Int32.ofInt kc = nI k) (l0 : ls[0]? = some (Slot.val (.ref b))) (l4 : ls[4]? = some (Slot.val (.int (nI i))))
    (d1 : decode cc pc = .ok (.aload_n 0, 1)) (d2 : decode cc (pc + 1) = .ok (.iload 4, 2)) (d3 : decode cc (pc + 3) = .ok (.iconst kc, 1)) (d4 : decode cc (pc + 4) = .ok (.iadd, 1)) (d5 : decode cc (pc + 5) = .ok (.iaload, 1))
    (kk : W p l e R s m args below meth c H locs cells slots Q (F0 m (pc + 6) ls (.int (xs (i + k)) :: rest))) : W p l e R s m args below meth c H locs cells slots Q (F0 m pc ls rest) := by
  refine lv_aload_n hx hb d1 rfl l0 ?_
  refine lv_iload hx hb d2 l4 ?_
  refine lv_iconst (v := nI k) hx hb d3 hk ?_
  refine lv_iadd hx hb d4 ?_
  rw [nI_add i k]
  refine va_sld hx hb hX hbl hbA hS (vp_in_nI hi (by omega)) d5 ?_
  rw [nI_clamp (show i + k < 2 ^ 31 by omega)]
  exact kk
/-- what holds throughout the law, once both objects are made -/
def lwB (p : Program) (s : State) (m : MethodId) (c : Code) (b L : Nat) (xs : Nat → Int32) (G : va_G) (ad am : Nat → Nat) (C V : Nat) (cI cZ : ClassId) (ao : Nat) (cL : ClassId) : Prop :=
  (p.tables.exec = Jvm.exec ∧ c.code = cL_law ∧ c.maxLocals = 7 ∧ s.vm.findClass RL = some m.cls ∧ (∀ w ∈ wsL_law, w.before #[Value.ref b] s = true)) ∧ va_X b L xs s s.heap ∧ b < s.heap.size ∧ L ≤ 2051 ∧ va_K G vwCl (ty3 cI cZ cL) s ∧ XI (fun q : Nat => s.heap.size ≤ q) s s.heap ∧
  (∀ u v f, va_D (fun q : Nat => s.heap.size ≤ q) (cw ad C V cI cZ u ++ (mw am cI cZ v ++ [oc ao cL f])))
theorem perm_M {A : Nat → Prop} {a b c : va_W} (h : va_D A (a ++ (b ++ c))) : va_D A (b ++ (a ++ c)) := va_D_perm h (by
  simp only [List.map_append]
  rw [← List.append_assoc, ← List.append_assoc]
  exact List.Perm.append_right _ List.perm_append_comm)
theorem perm_O {A : Nat → Prop} {a b c : va_W} (h : va_D A (a ++ (b ++ c))) : va_D A ((a ++ c) ++ b) := va_D_perm h (by
  simp only [List.map_append]
  rw [List.append_assoc]
  exact List.Perm.append_left _ List.perm_append_comm)
/-- the state at the head of the law's loop and behind each case -/
def lwS (s : State) (b : Nat) (G : va_G) (ad am : Nat → Nat) (C V : Nat) (cI cZ : ClassId) (ao : Nat) (cL : ClassId) (i : Nat) (H : Heap) (locs : List Loc) (ls : Array Slot) : Prop :=
  ∃ (u v : CS) (f : Nat → Int64), Sim C V u v ∧ va_P G vwCl (cw ad C V cI cZ u) H ∧ va_P G vwCl (mw am cI cZ v) H ∧ va_P G vwCl [oc ao cL f] H ∧ va_S (fun q : Nat => s.heap.size ≤ q) s.heap H locs ∧ lv_has ls 7 [(4, .int (nI i)), (0, .ref b), (1, .ref (ad 0)), (2, .ref (am 0)), (3, .ref ao)]
section Cases
variable {p : Program} {l : Launch} {e : Env} {s : State} {m : MethodId} {below : List Frame} {meth : Method} {c : Code} {b L : Nat} {xs : Nat → Int32} {G : va_G} {ad am : Nat → Nat} {C V : Nat} {cI cZ : ClassId} {ao : Nat} {cL : ClassId} {i : Nat} {H : Heap} {locs : List Loc} {ls : Array Slot} {cells slots : Nat} {Q : State → Prop}
set_option maxHeartbeats 4000000 in
set_option maxRecDepth 100000 in
theorem case_put (hB : lwB p s m c b L xs G ad am C V cI cZ ao cL) (hlt : l.stackTraces = false) (hi : i + 3 < L) (hc : cells + 1 ≤ 601024) (hs : slots + 6 ≤ 7293000) (hst : lwS s b G ad am C V cI cZ ao cL i H locs ls) (hk : ∀ (H : Heap) (locs : List Loc) (ls : Array Slot), lwS s b G ad am C V cI cZ ao cL i H locs ls → W p l e room_1 s m #[Value.ref b] below meth c H locs (cells + 1) (slots + 6) Q (F0 m 822 ls [])) : W p l e room_1 s m #[Value.ref b] below meth c H locs cells slots Q (F0 m 152 ls []) := by
  obtain ⟨S9, hX, hbl, hL, hK, hXI, hDD⟩ := hB
  obtain ⟨hx, hb, hml, hown, hts⟩ := id S9
  obtain ⟨u, v, f, hsim, hPc, hPm, hPo, hS, hl⟩ := hst
  have hA : ∀ q : Nat, s.heap.size ≤ q → (fun q : Nat => s.heap.size ≤ q) q := fun _ h => h
  have hbA : ¬ (fun q : Nat => s.heap.size ≤ q) b := Nat.not_le.mpr hbl
  have hK2 := hK.sub (tys' := ty2 cI cZ) [0, 1] rfl
  refine lv_aload_n hx hb dL_law_152 rfl (lv_at hl 2 rfl) ?_
  refine sld4 1 hx hb hX hbl hbA hS hL (by omega) (by decide) (lv_at hl 1 rfl) (lv_at hl 0 rfl) dL_law_153 dL_law_154 dL_law_156 dL_law_157 dL_law_158 ?_
  refine sld4 2 hx hb hX hbl hbA hS hL (by omega) (by decide) (lv_at hl 1 rfl) (lv_at hl 0 rfl) dL_law_159 dL_law_160 dL_law_162 dL_law_163 dL_law_164 ?_
  refine sld4 3 hx hb hX hbl hbA hS hL (by omega) (by decide) (lv_at hl 1 rfl) (lv_at hl 0 rfl) dL_law_165 dL_law_166 dL_law_168 dL_law_169 dL_law_170 ?_
  have hw := sim_put hsim (xs (i + 1)) (xs (i + 2)) (xs (i + 3))
  refine CtI.callF (wb := mw am cI cZ v ++ [oc ao cL f]) (As := [.int (xs (i + 1)), .int (xs (i + 2)), .int (xs (i + 3))]) (rest := []) (c_X2_put l G ad C V cI cZ (xs (i + 1)) (xs (i + 2)) (xs (i + 3)) u _ hw) S9 (cwV 3 hts gL_law_X2_put rfl rfl rfl (by decide +kernel) ⟨Nat.le_of_ble_eq_true rfl, Nat.le_of_ble_eq_true rfl⟩) (va_recv hK hPc (ci := 2) (q0 := 0) rfl rfl) hK2 hPc (hPm.app hPo) (hDD u v f) hS hA rfl hl.1 rfl (Nat.le_of_ble_eq_true rfl) dL_law_171 ⟨show cells ≤ 601024 by omega, show slots ≤ 7293000 by omega⟩ (fun r u1 H locs hw hPc hPb hS => ?_)
  have hPm := va_P_left hPb
  have hPo := va_P_right hPb
  refine lv_aload_n hx hb dL_law_174 rfl (lv_at hl 3 rfl) ?_
  refine sld4 1 hx hb hX hbl hbA hS hL (by omega) (by decide) (lv_at hl 1 rfl) (lv_at hl 0 rfl) dL_law_175 dL_law_176 dL_law_178 dL_law_179 dL_law_180 ?_
  refine sld4 2 hx hb hX hbl hbA hS hL (by omega) (by decide) (lv_at hl 1 rfl) (lv_at hl 0 rfl) dL_law_181 dL_law_182 dL_law_184 dL_law_185 dL_law_186 ?_
  refine sld4 3 hx hb hX hbl hbA hS hL (by omega) (by decide) (lv_at hl 1 rfl) (lv_at hl 0 rfl) dL_law_187 dL_law_188 dL_law_190 dL_law_191 dL_law_192 ?_
  refine CtI.callF (wb := cw ad C V cI cZ u1 ++ [oc ao cL f]) (As := [.int (xs (i + 1)), .int (xs (i + 2)), .int (xs (i + 3))]) (rest := [.int r]) (c_X3_put l G am cI cZ (xs (i + 1)) (xs (i + 2)) (xs (i + 3)) v _ hw) S9 (cwV 3 hts gL_law_X3_put rfl rfl rfl (by decide +kernel) ⟨Nat.le_of_ble_eq_true rfl, Nat.le_of_ble_eq_true rfl⟩) (va_recv hK hPm (ci := 3) (q0 := 0) rfl rfl) hK2 hPm (hPc.app hPo) (perm_M (hDD u1 v f)) hS hA rfl hl.1 rfl (Nat.le_of_ble_eq_true rfl) dL_law_193 ⟨show cells ≤ 601024 by omega, show slots ≤ 7293000 by omega⟩ (fun r2 v1 H locs hw hPm hPb hS => ?_)
  have hPc := va_P_left hPb
  have hPo := va_P_right hPb
  obtain ⟨er, hsim⟩ := hw
  refine lv_icmp_eq (tgt := 822) hx hb dL_law_196 (by decide) (fun c1 => ?_) (fun c1 => ?_)
  · refine W.widen (k := cells + 1) (n := slots + 6) (by omega) (by omega) ?_
    exact hk H locs ls ⟨u1, v1, f, hsim, hPc, hPm, hPo, hS, hl⟩
  · exact absurd er c1
set_option maxHeartbeats 4000000 in
set_option maxRecDepth 100000 in
theorem case_remove (hB : lwB p s m c b L xs G ad am C V cI cZ ao cL) (hlt : l.stackTraces = false) (hi : i + 3 < L) (hc : cells + 1 ≤ 601024) (hs : slots + 6 ≤ 7293000) (hst : lwS s b G ad am C V cI cZ ao cL i H locs ls) (hk : ∀ (H : Heap) (locs : List Loc) (ls : Array Slot), lwS s b G ad am C V cI cZ ao cL i H locs ls → W p l e room_1 s m #[Value.ref b] below meth c H locs (cells + 1) (slots + 6) Q (F0 m 822 ls [])) : W p l e room_1 s m #[Value.ref b] below meth c H locs cells slots Q (F0 m 201 ls []) := by
  obtain ⟨S9, hX, hbl, hL, hK, hXI, hDD⟩ := hB
  obtain ⟨hx, hb, hml, hown, hts⟩ := id S9
  obtain ⟨u, v, f, hsim, hPc, hPm, hPo, hS, hl⟩ := hst
  have hA : ∀ q : Nat, s.heap.size ≤ q → (fun q : Nat => s.heap.size ≤ q) q := fun _ h => h
  have hbA : ¬ (fun q : Nat => s.heap.size ≤ q) b := Nat.not_le.mpr hbl
  have hK2 := hK.sub (tys' := ty2 cI cZ) [0, 1] rfl
  refine lv_aload_n hx hb dL_law_201 rfl (lv_at hl 2 rfl) ?_
  refine sld4 1 hx hb hX hbl hbA hS hL (by omega) (by decide) (lv_at hl 1 rfl) (lv_at hl 0 rfl) dL_law_202 dL_law_203 dL_law_205 dL_law_206 dL_law_207 ?_
  refine sld4 2 hx hb hX hbl hbA hS hL (by omega) (by decide) (lv_at hl 1 rfl) (lv_at hl 0 rfl) dL_law_208 dL_law_209 dL_law_211 dL_law_212 dL_law_213 ?_
  have hw := sim_remove hsim (xs (i + 1)) (xs (i + 2))
  refine CtI.callF (wb := mw am cI cZ v ++ [oc ao cL f]) (As := [.int (xs (i + 1)), .int (xs (i + 2))]) (rest := []) (c_X2_remove l G ad C V cI cZ (xs (i + 1)) (xs (i + 2)) u _ hw) S9 (cwV 2 hts gL_law_X2_remove rfl rfl rfl (by decide +kernel) ⟨Nat.le_of_ble_eq_true rfl, Nat.le_of_ble_eq_true rfl⟩) (va_recv hK hPc (ci := 2) (q0 := 0) rfl rfl) hK2 hPc (hPm.app hPo) (hDD u v f) hS hA rfl hl.1 rfl (Nat.le_of_ble_eq_true rfl) dL_law_214 ⟨show cells ≤ 601024 by omega, show slots ≤ 7293000 by omega⟩ (fun r u1 H locs hw hPc hPb hS => ?_)
  have hPm := va_P_left hPb
  have hPo := va_P_right hPb
  refine lv_aload_n hx hb dL_law_217 rfl (lv_at hl 3 rfl) ?_
  refine sld4 1 hx hb hX hbl hbA hS hL (by omega) (by decide) (lv_at hl 1 rfl) (lv_at hl 0 rfl) dL_law_218 dL_law_219 dL_law_221 dL_law_222 dL_law_223 ?_
  refine sld4 2 hx hb hX hbl hbA hS hL (by omega) (by decide) (lv_at hl 1 rfl) (lv_at hl 0 rfl) dL_law_224 dL_law_225 dL_law_227 dL_law_228 dL_law_229 ?_
  refine CtI.callF (wb := cw ad C V cI cZ u1 ++ [oc ao cL f]) (As := [.int (xs (i + 1)), .int (xs (i + 2))]) (rest := [.int r]) (c_X3_remove l G am cI cZ (xs (i + 1)) (xs (i + 2)) v _ hw) S9 (cwV 2 hts gL_law_X3_remove rfl rfl rfl (by decide +kernel) ⟨Nat.le_of_ble_eq_true rfl, Nat.le_of_ble_eq_true rfl⟩) (va_recv hK hPm (ci := 3) (q0 := 0) rfl rfl) hK2 hPm (hPc.app hPo) (perm_M (hDD u1 v f)) hS hA rfl hl.1 rfl (Nat.le_of_ble_eq_true rfl) dL_law_230 ⟨show cells ≤ 601024 by omega, show slots ≤ 7293000 by omega⟩ (fun r2 v1 H locs hw hPm hPb hS => ?_)
  have hPc := va_P_left hPb
  have hPo := va_P_right hPb
  obtain ⟨er, hsim⟩ := hw
  refine lv_icmp_eq (tgt := 822) hx hb dL_law_233 (by decide) (fun c1 => ?_) (fun c1 => ?_)
  · refine W.widen (k := cells + 1) (n := slots + 6) (by omega) (by omega) ?_
    exact hk H locs ls ⟨u1, v1, f, hsim, hPc, hPm, hPo, hS, hl⟩
  · exact absurd er c1
set_option maxHeartbeats 4000000 in
set_option maxRecDepth 100000 in
theorem case_below (hB : lwB p s m c b L xs G ad am C V cI cZ ao cL) (hlt : l.stackTraces = false) (hi : i + 3 < L) (hc : cells + 1 ≤ 601024) (hs : slots + 6 ≤ 7293000) (hst : lwS s b G ad am C V cI cZ ao cL i H locs ls) (hk : ∀ (H : Heap) (locs : List Loc) (ls : Array Slot), lwS s b G ad am C V cI cZ ao cL i H locs ls → W p l e room_1 s m #[Value.ref b] below meth c H locs (cells + 1) (slots + 6) Q (F0 m 822 ls [])) : W p l e room_1 s m #[Value.ref b] below meth c H locs cells slots Q (F0 m 238 ls []) := by
  obtain ⟨S9, hX, hbl, hL, hK, hXI, hDD⟩ := hB
  obtain ⟨hx, hb, hml, hown, hts⟩ := id S9
  obtain ⟨u, v, f, hsim, hPc, hPm, hPo, hS, hl⟩ := hst
  have hA : ∀ q : Nat, s.heap.size ≤ q → (fun q : Nat => s.heap.size ≤ q) q := fun _ h => h
  have hbA : ¬ (fun q : Nat => s.heap.size ≤ q) b := Nat.not_le.mpr hbl
  have hK2 := hK.sub (tys' := ty2 cI cZ) [0, 1] rfl
  refine lv_aload_n hx hb dL_law_238 rfl (lv_at hl 2 rfl) ?_
  refine sld4 1 hx hb hX hbl hbA hS hL (by omega) (by decide) (lv_at hl 1 rfl) (lv_at hl 0 rfl) dL_law_239 dL_law_240 dL_law_242 dL_law_243 dL_law_244 ?_
  refine sld4 2 hx hb hX hbl hbA hS hL (by omega) (by decide) (lv_at hl 1 rfl) (lv_at hl 0 rfl) dL_law_245 dL_law_246 dL_law_248 dL_law_249 dL_law_250 ?_
  have hw := sim_below hsim (xs (i + 1)) (xs (i + 2))
  refine CtI.callF (wb := mw am cI cZ v ++ [oc ao cL f]) (As := [.int (xs (i + 1)), .int (xs (i + 2))]) (rest := []) (c_X2_below l G ad C V cI cZ (xs (i + 1)) (xs (i + 2)) u _ hw) S9 (cwV 2 hts gL_law_X2_below rfl rfl rfl (by decide +kernel) ⟨Nat.le_of_ble_eq_true rfl, Nat.le_of_ble_eq_true rfl⟩) (va_recv hK hPc (ci := 2) (q0 := 0) rfl rfl) hK2 hPc (hPm.app hPo) (hDD u v f) hS hA rfl hl.1 rfl (Nat.le_of_ble_eq_true rfl) dL_law_251 ⟨show cells ≤ 601024 by omega, show slots ≤ 7293000 by omega⟩ (fun r u1 H locs hw hPc hPb hS => ?_)
  have hPm := va_P_left hPb
  have hPo := va_P_right hPb
  refine lv_aload_n hx hb dL_law_254 rfl (lv_at hl 3 rfl) ?_
  refine sld4 1 hx hb hX hbl hbA hS hL (by omega) (by decide) (lv_at hl 1 rfl) (lv_at hl 0 rfl) dL_law_255 dL_law_256 dL_law_258 dL_law_259 dL_law_260 ?_
  refine sld4 2 hx hb hX hbl hbA hS hL (by omega) (by decide) (lv_at hl 1 rfl) (lv_at hl 0 rfl) dL_law_261 dL_law_262 dL_law_264 dL_law_265 dL_law_266 ?_
  refine CtI.callF (wb := cw ad C V cI cZ u1 ++ [oc ao cL f]) (As := [.int (xs (i + 1)), .int (xs (i + 2))]) (rest := [.int r]) (c_X3_below l G am cI cZ (xs (i + 1)) (xs (i + 2)) v _ hw) S9 (cwV 2 hts gL_law_X3_below rfl rfl rfl (by decide +kernel) ⟨Nat.le_of_ble_eq_true rfl, Nat.le_of_ble_eq_true rfl⟩) (va_recv hK hPm (ci := 3) (q0 := 0) rfl rfl) hK2 hPm (hPc.app hPo) (perm_M (hDD u1 v f)) hS hA rfl hl.1 rfl (Nat.le_of_ble_eq_true rfl) dL_law_267 ⟨show cells ≤ 601024 by omega, show slots ≤ 7293000 by omega⟩ (fun r2 v1 H locs hw hPm hPb hS => ?_)
  have hPc := va_P_left hPb
  have hPo := va_P_right hPb
  obtain ⟨er, hsim⟩ := hw
  refine lv_icmp_eq (tgt := 822) hx hb dL_law_270 (by decide) (fun c1 => ?_) (fun c1 => ?_)
  · refine W.widen (k := cells + 1) (n := slots + 6) (by omega) (by omega) ?_
    exact hk H locs ls ⟨u1, v1, f, hsim, hPc, hPm, hPo, hS, hl⟩
  · exact absurd er c1
set_option maxHeartbeats 4000000 in
set_option maxRecDepth 100000 in
theorem case_join (hB : lwB p s m c b L xs G ad am C V cI cZ ao cL) (hlt : l.stackTraces = false) (hi : i + 3 < L) (hc : cells + 1 ≤ 601024) (hs : slots + 6 ≤ 7293000) (hst : lwS s b G ad am C V cI cZ ao cL i H locs ls) (hk : ∀ (H : Heap) (locs : List Loc) (ls : Array Slot), lwS s b G ad am C V cI cZ ao cL i H locs ls → W p l e room_1 s m #[Value.ref b] below meth c H locs (cells + 1) (slots + 6) Q (F0 m 822 ls [])) : W p l e room_1 s m #[Value.ref b] below meth c H locs cells slots Q (F0 m 275 ls []) := by
  obtain ⟨S9, hX, hbl, hL, hK, hXI, hDD⟩ := hB
  obtain ⟨hx, hb, hml, hown, hts⟩ := id S9
  obtain ⟨u, v, f, hsim, hPc, hPm, hPo, hS, hl⟩ := hst
  have hA : ∀ q : Nat, s.heap.size ≤ q → (fun q : Nat => s.heap.size ≤ q) q := fun _ h => h
  have hbA : ¬ (fun q : Nat => s.heap.size ≤ q) b := Nat.not_le.mpr hbl
  have hK2 := hK.sub (tys' := ty2 cI cZ) [0, 1] rfl
  refine lv_aload_n hx hb dL_law_275 rfl (lv_at hl 2 rfl) ?_
  refine sld4 1 hx hb hX hbl hbA hS hL (by omega) (by decide) (lv_at hl 1 rfl) (lv_at hl 0 rfl) dL_law_276 dL_law_277 dL_law_279 dL_law_280 dL_law_281 ?_
  refine sld4 2 hx hb hX hbl hbA hS hL (by omega) (by decide) (lv_at hl 1 rfl) (lv_at hl 0 rfl) dL_law_282 dL_law_283 dL_law_285 dL_law_286 dL_law_287 ?_
  have hw := sim_join hsim (xs (i + 1)) (xs (i + 2))
  refine CtI.callF (wb := mw am cI cZ v ++ [oc ao cL f]) (As := [.int (xs (i + 1)), .int (xs (i + 2))]) (rest := []) (c_X2_join l G ad C V cI cZ (xs (i + 1)) (xs (i + 2)) u _ hw) S9 (cwV 2 hts gL_law_X2_join rfl rfl rfl (by decide +kernel) ⟨Nat.le_of_ble_eq_true rfl, Nat.le_of_ble_eq_true rfl⟩) (va_recv hK hPc (ci := 2) (q0 := 0) rfl rfl) hK2 hPc (hPm.app hPo) (hDD u v f) hS hA rfl hl.1 rfl (Nat.le_of_ble_eq_true rfl) dL_law_288 ⟨show cells ≤ 601024 by omega, show slots ≤ 7293000 by omega⟩ (fun r u1 H locs hw hPc hPb hS => ?_)
  have hPm := va_P_left hPb
  have hPo := va_P_right hPb
  refine lv_aload_n hx hb dL_law_291 rfl (lv_at hl 3 rfl) ?_
  refine sld4 1 hx hb hX hbl hbA hS hL (by omega) (by decide) (lv_at hl 1 rfl) (lv_at hl 0 rfl) dL_law_292 dL_law_293 dL_law_295 dL_law_296 dL_law_297 ?_
  refine sld4 2 hx hb hX hbl hbA hS hL (by omega) (by decide) (lv_at hl 1 rfl) (lv_at hl 0 rfl) dL_law_298 dL_law_299 dL_law_301 dL_law_302 dL_law_303 ?_
  refine CtI.callF (wb := cw ad C V cI cZ u1 ++ [oc ao cL f]) (As := [.int (xs (i + 1)), .int (xs (i + 2))]) (rest := [.int r]) (c_X3_join l G am cI cZ (xs (i + 1)) (xs (i + 2)) v _ hw) S9 (cwV 2 hts gL_law_X3_join rfl rfl rfl (by decide +kernel) ⟨Nat.le_of_ble_eq_true rfl, Nat.le_of_ble_eq_true rfl⟩) (va_recv hK hPm (ci := 3) (q0 := 0) rfl rfl) hK2 hPm (hPc.app hPo) (perm_M (hDD u1 v f)) hS hA rfl hl.1 rfl (Nat.le_of_ble_eq_true rfl) dL_law_304 ⟨show cells ≤ 601024 by omega, show slots ≤ 7293000 by omega⟩ (fun r2 v1 H locs hw hPm hPb hS => ?_)
  have hPc := va_P_left hPb
  have hPo := va_P_right hPb
  obtain ⟨er, hsim⟩ := hw
  refine lv_icmp_eq (tgt := 822) hx hb dL_law_307 (by decide) (fun c1 => ?_) (fun c1 => ?_)
  · refine W.widen (k := cells + 1) (n := slots + 6) (by omega) (by omega) ?_
    exact hk H locs ls ⟨u1, v1, f, hsim, hPc, hPm, hPo, hS, hl⟩
  · exact absurd er c1
set_option maxHeartbeats 4000000 in
set_option maxRecDepth 100000 in
theorem case_drop (hB : lwB p s m c b L xs G ad am C V cI cZ ao cL) (hlt : l.stackTraces = false) (hi : i + 3 < L) (hc : cells + 1 ≤ 601024) (hs : slots + 6 ≤ 7293000) (hst : lwS s b G ad am C V cI cZ ao cL i H locs ls) (hk : ∀ (H : Heap) (locs : List Loc) (ls : Array Slot), lwS s b G ad am C V cI cZ ao cL i H locs ls → W p l e room_1 s m #[Value.ref b] below meth c H locs (cells + 1) (slots + 6) Q (F0 m 822 ls [])) : W p l e room_1 s m #[Value.ref b] below meth c H locs cells slots Q (F0 m 312 ls []) := by
  obtain ⟨S9, hX, hbl, hL, hK, hXI, hDD⟩ := hB
  obtain ⟨hx, hb, hml, hown, hts⟩ := id S9
  obtain ⟨u, v, f, hsim, hPc, hPm, hPo, hS, hl⟩ := hst
  have hA : ∀ q : Nat, s.heap.size ≤ q → (fun q : Nat => s.heap.size ≤ q) q := fun _ h => h
  have hbA : ¬ (fun q : Nat => s.heap.size ≤ q) b := Nat.not_le.mpr hbl
  have hK2 := hK.sub (tys' := ty2 cI cZ) [0, 1] rfl
  refine lv_aload_n hx hb dL_law_312 rfl (lv_at hl 2 rfl) ?_
  refine sld4 1 hx hb hX hbl hbA hS hL (by omega) (by decide) (lv_at hl 1 rfl) (lv_at hl 0 rfl) dL_law_313 dL_law_314 dL_law_316 dL_law_317 dL_law_318 ?_
  have hw := sim_drop hsim (xs (i + 1))
  refine CtI.callF (wb := mw am cI cZ v ++ [oc ao cL f]) (As := [.int (xs (i + 1))]) (rest := []) (c_X2_drop l G ad C V cI cZ (xs (i + 1)) u _ hw) S9 (cwV 1 hts gL_law_X2_drop rfl rfl rfl (by decide +kernel) ⟨Nat.le_of_ble_eq_true rfl, Nat.le_of_ble_eq_true rfl⟩) (va_recv hK hPc (ci := 2) (q0 := 0) rfl rfl) hK2 hPc (hPm.app hPo) (hDD u v f) hS hA rfl hl.1 rfl (Nat.le_of_ble_eq_true rfl) dL_law_319 ⟨show cells ≤ 601024 by omega, show slots ≤ 7293000 by omega⟩ (fun r u1 H locs hw hPc hPb hS => ?_)
  obtain ⟨_, hw⟩ := hw
  have hPm := va_P_left hPb
  have hPo := va_P_right hPb
  refine lv_aload_n hx hb dL_law_322 rfl (lv_at hl 3 rfl) ?_
  refine sld4 1 hx hb hX hbl hbA hS hL (by omega) (by decide) (lv_at hl 1 rfl) (lv_at hl 0 rfl) dL_law_323 dL_law_324 dL_law_326 dL_law_327 dL_law_328 ?_
  refine CtI.callF (wb := cw ad C V cI cZ u1 ++ [oc ao cL f]) (As := [.int (xs (i + 1))]) (rest := [.int r]) (c_X3_drop l G am cI cZ (xs (i + 1)) v _ hw) S9 (cwV 1 hts gL_law_X3_drop rfl rfl rfl (by decide +kernel) ⟨Nat.le_of_ble_eq_true rfl, Nat.le_of_ble_eq_true rfl⟩) (va_recv hK hPm (ci := 3) (q0 := 0) rfl rfl) hK2 hPm (hPc.app hPo) (perm_M (hDD u1 v f)) hS hA rfl hl.1 rfl (Nat.le_of_ble_eq_true rfl) dL_law_329 ⟨show cells ≤ 601024 by omega, show slots ≤ 7293000 by omega⟩ (fun r2 v1 H locs hw hPm hPb hS => ?_)
  obtain ⟨_, hw⟩ := hw
  have hPc := va_P_left hPb
  have hPo := va_P_right hPb
  obtain ⟨er, hsim⟩ := hw
  refine lv_icmp_eq (tgt := 822) hx hb dL_law_332 (by decide) (fun c1 => ?_) (fun c1 => ?_)
  · refine W.widen (k := cells + 1) (n := slots + 6) (by omega) (by omega) ?_
    exact hk H locs ls ⟨u1, v1, f, hsim, hPc, hPm, hPo, hS, hl⟩
  · exact absurd er c1
set_option maxHeartbeats 4000000 in
set_option maxRecDepth 100000 in
theorem case_isLive (hB : lwB p s m c b L xs G ad am C V cI cZ ao cL) (hlt : l.stackTraces = false) (hi : i + 3 < L) (hc : cells + 1 ≤ 601024) (hs : slots + 6 ≤ 7293000) (hst : lwS s b G ad am C V cI cZ ao cL i H locs ls) (hk : ∀ (H : Heap) (locs : List Loc) (ls : Array Slot), lwS s b G ad am C V cI cZ ao cL i H locs ls → W p l e room_1 s m #[Value.ref b] below meth c H locs (cells + 1) (slots + 6) Q (F0 m 822 ls [])) : W p l e room_1 s m #[Value.ref b] below meth c H locs cells slots Q (F0 m 337 ls []) := by
  obtain ⟨S9, hX, hbl, hL, hK, hXI, hDD⟩ := hB
  obtain ⟨hx, hb, hml, hown, hts⟩ := id S9
  obtain ⟨u, v, f, hsim, hPc, hPm, hPo, hS, hl⟩ := hst
  have hA : ∀ q : Nat, s.heap.size ≤ q → (fun q : Nat => s.heap.size ≤ q) q := fun _ h => h
  have hbA : ¬ (fun q : Nat => s.heap.size ≤ q) b := Nat.not_le.mpr hbl
  have hK2 := hK.sub (tys' := ty2 cI cZ) [0, 1] rfl
  refine lv_aload_n hx hb dL_law_337 rfl (lv_at hl 2 rfl) ?_
  refine sld4 1 hx hb hX hbl hbA hS hL (by omega) (by decide) (lv_at hl 1 rfl) (lv_at hl 0 rfl) dL_law_338 dL_law_339 dL_law_341 dL_law_342 dL_law_343 ?_
  have hw := sim_isLive hsim (xs (i + 1))
  refine CtI.callF (wb := mw am cI cZ v ++ [oc ao cL f]) (As := [.int (xs (i + 1))]) (rest := []) (c_X2_isLive l G ad C V cI cZ (xs (i + 1)) u _ hw) S9 (cwV 1 hts gL_law_X2_isLive rfl rfl rfl (by decide +kernel) ⟨Nat.le_of_ble_eq_true rfl, Nat.le_of_ble_eq_true rfl⟩) (va_recv hK hPc (ci := 2) (q0 := 0) rfl rfl) hK2 hPc (hPm.app hPo) (hDD u v f) hS hA rfl hl.1 rfl (Nat.le_of_ble_eq_true rfl) dL_law_344 ⟨show cells ≤ 601024 by omega, show slots ≤ 7293000 by omega⟩ (fun r u1 H locs hw hPc hPb hS => ?_)
  obtain ⟨_, hw⟩ := hw
  have hPm := va_P_left hPb
  have hPo := va_P_right hPb
  refine lv_aload_n hx hb dL_law_347 rfl (lv_at hl 3 rfl) ?_
  refine sld4 1 hx hb hX hbl hbA hS hL (by omega) (by decide) (lv_at hl 1 rfl) (lv_at hl 0 rfl) dL_law_348 dL_law_349 dL_law_351 dL_law_352 dL_law_353 ?_
  refine CtI.callF (wb := cw ad C V cI cZ u1 ++ [oc ao cL f]) (As := [.int (xs (i + 1))]) (rest := [.int r]) (c_X3_isLive l G am cI cZ (xs (i + 1)) v _ hw) S9 (cwV 1 hts gL_law_X3_isLive rfl rfl rfl (by decide +kernel) ⟨Nat.le_of_ble_eq_true rfl, Nat.le_of_ble_eq_true rfl⟩) (va_recv hK hPm (ci := 3) (q0 := 0) rfl rfl) hK2 hPm (hPc.app hPo) (perm_M (hDD u1 v f)) hS hA rfl hl.1 rfl (Nat.le_of_ble_eq_true rfl) dL_law_354 ⟨show cells ≤ 601024 by omega, show slots ≤ 7293000 by omega⟩ (fun r2 v1 H locs hw hPm hPb hS => ?_)
  obtain ⟨_, hw⟩ := hw
  have hPc := va_P_left hPb
  have hPo := va_P_right hPb
  obtain ⟨er, hsim⟩ := hw
  refine lv_icmp_eq (tgt := 822) hx hb dL_law_357 (by decide) (fun c1 => ?_) (fun c1 => ?_)
  · refine W.widen (k := cells + 1) (n := slots + 6) (by omega) (by omega) ?_
    exact hk H locs ls ⟨u1, v1, f, hsim, hPc, hPm, hPo, hS, hl⟩
  · exact absurd er c1
set_option maxHeartbeats 4000000 in
set_option maxRecDepth 100000 in
theorem case_get (hB : lwB p s m c b L xs G ad am C V cI cZ ao cL) (hlt : l.stackTraces = false) (hi : i + 3 < L) (hc : cells + 1 ≤ 601024) (hs : slots + 6 ≤ 7293000) (hst : lwS s b G ad am C V cI cZ ao cL i H locs ls) (hk : ∀ (H : Heap) (locs : List Loc) (ls : Array Slot), lwS s b G ad am C V cI cZ ao cL i H locs ls → W p l e room_1 s m #[Value.ref b] below meth c H locs (cells + 1) (slots + 6) Q (F0 m 822 ls [])) : W p l e room_1 s m #[Value.ref b] below meth c H locs cells slots Q (F0 m 362 ls []) := by
  obtain ⟨S9, hX, hbl, hL, hK, hXI, hDD⟩ := hB
  obtain ⟨hx, hb, hml, hown, hts⟩ := id S9
  obtain ⟨u, v, f, hsim, hPc, hPm, hPo, hS, hl⟩ := hst
  have hA : ∀ q : Nat, s.heap.size ≤ q → (fun q : Nat => s.heap.size ≤ q) q := fun _ h => h
  have hbA : ¬ (fun q : Nat => s.heap.size ≤ q) b := Nat.not_le.mpr hbl
  have hK2 := hK.sub (tys' := ty2 cI cZ) [0, 1] rfl
  refine lv_aload_n hx hb dL_law_362 rfl (lv_at hl 2 rfl) ?_
  refine sld4 1 hx hb hX hbl hbA hS hL (by omega) (by decide) (lv_at hl 1 rfl) (lv_at hl 0 rfl) dL_law_363 dL_law_364 dL_law_366 dL_law_367 dL_law_368 ?_
  refine sld4 2 hx hb hX hbl hbA hS hL (by omega) (by decide) (lv_at hl 1 rfl) (lv_at hl 0 rfl) dL_law_369 dL_law_370 dL_law_372 dL_law_373 dL_law_374 ?_
  refine lv_aload_n hx hb dL_law_375 rfl (lv_at hl 4 rfl) ?_
  have hw := sim_get hsim (xs (i + 1)) (xs (i + 2)) f
  refine CtO.call (wb := mw am cI cZ v) (rest := []) (c_L_get l G ad C V cI cZ ao cL (xs (i + 1)) (xs (i + 2)) u f (fun k u1 f1 => wp_X3_get (xs (i + 1)) (xs (i + 2)) v (ansL C V u1 f1 k)) hlt hw) S9 (vx_cwSW 4 hts gL_law_L_get rfl rfl rfl (by decide +kernel) ⟨Nat.le_of_ble_eq_true rfl, Nat.le_of_ble_eq_true rfl⟩) hK (hPc.app hPo) hPm (perm_O (hDD u v f)) hXI hS hA hl.1 rfl (Nat.le_of_ble_eq_true rfl) dL_law_376 ⟨show cells + 1 ≤ 601024 by omega, show slots + 6 ≤ 7293000 by omega⟩ (fun k u1 f1 H locs hw hPco hPm hS => ?_)
  have hPc := va_P_left hPco
  have hPo := va_P_right hPco
  refine lv_istore (lv' := [(5, .int k), (4, .int (nI i)), (0, .ref b), (1, .ref (ad 0)), (2, .ref (am 0)), (3, .ref ao)]) hx hb dL_law_379 hl (by decide) rfl (fun ls hl => ?_)
  refine lv_aload_n hx hb dL_law_381 rfl (lv_at hl 4 rfl) ?_
  refine sld4 1 hx hb hX hbl hbA hS hL (by omega) (by decide) (lv_at hl 2 rfl) (lv_at hl 1 rfl) dL_law_382 dL_law_383 dL_law_385 dL_law_386 dL_law_387 ?_
  refine sld4 2 hx hb hX hbl hbA hS hL (by omega) (by decide) (lv_at hl 2 rfl) (lv_at hl 1 rfl) dL_law_388 dL_law_389 dL_law_391 dL_law_392 dL_law_393 ?_
  refine CtI.callF (wb := cw ad C V cI cZ u1 ++ [oc ao cL f1]) (As := [.int (xs (i + 1)), .int (xs (i + 2))]) (rest := []) (c_X3_get l G am cI cZ (xs (i + 1)) (xs (i + 2)) v _ hw) S9 (cwV 2 hts gL_law_X3_get rfl rfl rfl (by decide +kernel) ⟨Nat.le_of_ble_eq_true rfl, Nat.le_of_ble_eq_true rfl⟩) (va_recv hK hPm (ci := 3) (q0 := 0) rfl rfl) hK2 hPm (hPc.app hPo) (perm_M (hDD u1 v f1)) hS hA rfl hl.1 rfl (Nat.le_of_ble_eq_true rfl) dL_law_394 ⟨show cells + 1 ≤ 601024 by omega, show slots + 6 ≤ 7293000 by omega⟩ (fun r2 v1 H locs hw hPm hPb hS => ?_)
  have hPc := va_P_left hPb
  have hPo := va_P_right hPb
  obtain ⟨et, ea, hsim⟩ := hw
  refine lv_istore (lv' := [(6, .int r2), (5, .int k), (4, .int (nI i)), (0, .ref b), (1, .ref (ad 0)), (2, .ref (am 0)), (3, .ref ao)]) hx hb dL_law_397 hl (by decide) rfl (fun ls hl => ?_)
  refine lv_aload_n hx hb dL_law_399 rfl (lv_at hl 5 rfl) ?_
  refine CtI.callF (wb := cw ad C V cI cZ u1 ++ [oc ao cL f1]) (As := []) (rest := []) (c_X3_thrown l G am cI cZ v1 (fun t v2 => t = v1 0 0 ∧ v2 = v1) (nmI.mk ⟨rfl, rfl⟩)) S9 (cwV 0 hts gL_law_X3_thrown rfl rfl rfl (by decide +kernel) ⟨Nat.le_of_ble_eq_true rfl, Nat.le_of_ble_eq_true rfl⟩) (va_recv hK hPm (ci := 3) (q0 := 0) rfl rfl) hK2 hPm (hPc.app hPo) (perm_M (hDD u1 v1 f1)) hS hA rfl hl.1 rfl (Nat.le_of_ble_eq_true rfl) dL_law_400 ⟨show cells + 1 ≤ 601024 by omega, show slots + 6 ≤ 7293000 by omega⟩ (fun t v2 H locs hw hPm hPb hS => ?_)
  have hPc := va_P_left hPb
  have hPo := va_P_right hPb
  obtain ⟨e1, e2⟩ := hw
  rw [e2] at hPm
  refine lv_iload hx hb dL_law_403 (lv_at hl 1 rfl) ?_
  refine lv_icmp_eq (tgt := 410) hx hb dL_law_405 (by decide) (fun c1 => ?_) (fun c1 => ?_)
  rotate_left
  · exact absurd (e1.trans et) c1
  refine lv_iload hx hb dL_law_410 (lv_at hl 1 rfl) ?_
  have hend : W p l e room_1 s m #[Value.ref b] below meth c H locs (cells + 1) (slots + 6) Q (F0 m 427 ls []) := by
    refine lv_goto (tgt := 822) hx hb dL_law_427 (by decide) ?_
    exact hk H locs ls ⟨u1, v1, f1, hsim, hPc, hPm, hPo, hS, lv_sub hl [2, 3, 4, 5, 6] rfl⟩
  refine lv_if_ne (tgt := 427) hx hb dL_law_412 (by decide) (fun c2 => ?_) (fun c2 => ?_)
  · exact hend
  refine lv_aload_n hx hb dL_law_415 rfl (lv_at hl 6 rfl) ?_
  refine lv_iconst (v := 0) hx hb dL_law_416 (by decide) ?_
  refine va_lald hx hb hK hPo 0 2 (a := ao) (cA := cL) (n := 1) (f := f1) rfl rfl (i := 0) (by unfold vp_in; decide) dL_law_417 ?_
  refine lv_iload hx hb dL_law_418 (lv_at hl 0 rfl) ?_
  refine lv_i2l hx hb dL_law_420 rfl ?_
  refine W.lcmp hx hb dL_law_421 ?_
  refine lv_if_eq (tgt := 427) hx hb dL_law_422 (by decide) (fun c3 => ?_) (fun c3 => ?_)
  · exact hend
  · exact absurd (by rw [show f1 (Int32.toNatClampNeg 0) = r2.toInt64 from ea c2]; unfold lg_cmp; simp) c3
set_option maxHeartbeats 4000000 in
set_option maxRecDepth 100000 in
theorem case_contains (hB : lwB p s m c b L xs G ad am C V cI cZ ao cL) (hlt : l.stackTraces = false) (hi : i + 3 < L) (hc : cells + 1 ≤ 601024) (hs : slots + 6 ≤ 7293000) (hst : lwS s b G ad am C V cI cZ ao cL i H locs ls) (hk : ∀ (H : Heap) (locs : List Loc) (ls : Array Slot), lwS s b G ad am C V cI cZ ao cL i H locs ls → W p l e room_1 s m #[Value.ref b] below meth c H locs (cells + 1) (slots + 6) Q (F0 m 822 ls [])) : W p l e room_1 s m #[Value.ref b] below meth c H locs cells slots Q (F0 m 430 ls []) := by
  obtain ⟨S9, hX, hbl, hL, hK, hXI, hDD⟩ := hB
  obtain ⟨hx, hb, hml, hown, hts⟩ := id S9
  obtain ⟨u, v, f, hsim, hPc, hPm, hPo, hS, hl⟩ := hst
  have hA : ∀ q : Nat, s.heap.size ≤ q → (fun q : Nat => s.heap.size ≤ q) q := fun _ h => h
  have hbA : ¬ (fun q : Nat => s.heap.size ≤ q) b := Nat.not_le.mpr hbl
  have hK2 := hK.sub (tys' := ty2 cI cZ) [0, 1] rfl
  refine lv_aload_n hx hb dL_law_430 rfl (lv_at hl 2 rfl) ?_
  refine sld4 1 hx hb hX hbl hbA hS hL (by omega) (by decide) (lv_at hl 1 rfl) (lv_at hl 0 rfl) dL_law_431 dL_law_432 dL_law_434 dL_law_435 dL_law_436 ?_
  refine sld4 2 hx hb hX hbl hbA hS hL (by omega) (by decide) (lv_at hl 1 rfl) (lv_at hl 0 rfl) dL_law_437 dL_law_438 dL_law_440 dL_law_441 dL_law_442 ?_
  have hw := sim_contains hsim (xs (i + 1)) (xs (i + 2))
  refine CtI.callF (wb := mw am cI cZ v ++ [oc ao cL f]) (As := [.int (xs (i + 1)), .int (xs (i + 2))]) (rest := []) (c_X2_contains l G ad C V cI cZ (xs (i + 1)) (xs (i + 2)) u _ hw) S9 (cwV 2 hts gL_law_X2_contains rfl rfl rfl (by decide +kernel) ⟨Nat.le_of_ble_eq_true rfl, Nat.le_of_ble_eq_true rfl⟩) (va_recv hK hPc (ci := 2) (q0 := 0) rfl rfl) hK2 hPc (hPm.app hPo) (hDD u v f) hS hA rfl hl.1 rfl (Nat.le_of_ble_eq_true rfl) dL_law_443 ⟨show cells ≤ 601024 by omega, show slots ≤ 7293000 by omega⟩ (fun r u1 H locs hw hPc hPb hS => ?_)
  obtain ⟨_, hw⟩ := hw
  have hPm := va_P_left hPb
  have hPo := va_P_right hPb
  refine lv_aload_n hx hb dL_law_446 rfl (lv_at hl 3 rfl) ?_
  refine sld4 1 hx hb hX hbl hbA hS hL (by omega) (by decide) (lv_at hl 1 rfl) (lv_at hl 0 rfl) dL_law_447 dL_law_448 dL_law_450 dL_law_451 dL_law_452 ?_
  refine sld4 2 hx hb hX hbl hbA hS hL (by omega) (by decide) (lv_at hl 1 rfl) (lv_at hl 0 rfl) dL_law_453 dL_law_454 dL_law_456 dL_law_457 dL_law_458 ?_
  refine CtI.callF (wb := cw ad C V cI cZ u1 ++ [oc ao cL f]) (As := [.int (xs (i + 1)), .int (xs (i + 2))]) (rest := [.int r]) (c_X3_contains l G am cI cZ (xs (i + 1)) (xs (i + 2)) v _ hw) S9 (cwV 2 hts gL_law_X3_contains rfl rfl rfl (by decide +kernel) ⟨Nat.le_of_ble_eq_true rfl, Nat.le_of_ble_eq_true rfl⟩) (va_recv hK hPm (ci := 3) (q0 := 0) rfl rfl) hK2 hPm (hPc.app hPo) (perm_M (hDD u1 v f)) hS hA rfl hl.1 rfl (Nat.le_of_ble_eq_true rfl) dL_law_459 ⟨show cells ≤ 601024 by omega, show slots ≤ 7293000 by omega⟩ (fun r2 v1 H locs hw hPm hPb hS => ?_)
  obtain ⟨_, hw⟩ := hw
  have hPc := va_P_left hPb
  have hPo := va_P_right hPb
  obtain ⟨er, hsim⟩ := hw
  refine lv_icmp_eq (tgt := 822) hx hb dL_law_462 (by decide) (fun c1 => ?_) (fun c1 => ?_)
  · refine W.widen (k := cells + 1) (n := slots + 6) (by omega) (by omega) ?_
    exact hk H locs ls ⟨u1, v1, f, hsim, hPc, hPm, hPo, hS, hl⟩
  · exact absurd er c1
set_option maxHeartbeats 4000000 in
set_option maxRecDepth 100000 in
theorem case_size (hB : lwB p s m c b L xs G ad am C V cI cZ ao cL) (hlt : l.stackTraces = false) (hi : i + 3 < L) (hc : cells + 1 ≤ 601024) (hs : slots + 6 ≤ 7293000) (hst : lwS s b G ad am C V cI cZ ao cL i H locs ls) (hk : ∀ (H : Heap) (locs : List Loc) (ls : Array Slot), lwS s b G ad am C V cI cZ ao cL i H locs ls → W p l e room_1 s m #[Value.ref b] below meth c H locs (cells + 1) (slots + 6) Q (F0 m 822 ls [])) : W p l e room_1 s m #[Value.ref b] below meth c H locs cells slots Q (F0 m 467 ls []) := by
  obtain ⟨S9, hX, hbl, hL, hK, hXI, hDD⟩ := hB
  obtain ⟨hx, hb, hml, hown, hts⟩ := id S9
  obtain ⟨u, v, f, hsim, hPc, hPm, hPo, hS, hl⟩ := hst
  have hA : ∀ q : Nat, s.heap.size ≤ q → (fun q : Nat => s.heap.size ≤ q) q := fun _ h => h
  have hbA : ¬ (fun q : Nat => s.heap.size ≤ q) b := Nat.not_le.mpr hbl
  have hK2 := hK.sub (tys' := ty2 cI cZ) [0, 1] rfl
  refine lv_aload_n hx hb dL_law_467 rfl (lv_at hl 2 rfl) ?_
  refine sld4 1 hx hb hX hbl hbA hS hL (by omega) (by decide) (lv_at hl 1 rfl) (lv_at hl 0 rfl) dL_law_468 dL_law_469 dL_law_471 dL_law_472 dL_law_473 ?_
  have hw := sim_size hsim (xs (i + 1))
  refine CtI.callF (wb := mw am cI cZ v ++ [oc ao cL f]) (As := [.int (xs (i + 1))]) (rest := []) (c_X2_size l G ad C V cI cZ (xs (i + 1)) u _ hw) S9 (cwV 1 hts gL_law_X2_size rfl rfl rfl (by decide +kernel) ⟨Nat.le_of_ble_eq_true rfl, Nat.le_of_ble_eq_true rfl⟩) (va_recv hK hPc (ci := 2) (q0 := 0) rfl rfl) hK2 hPc (hPm.app hPo) (hDD u v f) hS hA rfl hl.1 rfl (Nat.le_of_ble_eq_true rfl) dL_law_474 ⟨show cells ≤ 601024 by omega, show slots ≤ 7293000 by omega⟩ (fun r u1 H locs hw hPc hPb hS => ?_)
  have hPm := va_P_left hPb
  have hPo := va_P_right hPb
  refine lv_aload_n hx hb dL_law_477 rfl (lv_at hl 3 rfl) ?_
  refine sld4 1 hx hb hX hbl hbA hS hL (by omega) (by decide) (lv_at hl 1 rfl) (lv_at hl 0 rfl) dL_law_478 dL_law_479 dL_law_481 dL_law_482 dL_law_483 ?_
  refine CtI.callF (wb := cw ad C V cI cZ u1 ++ [oc ao cL f]) (As := [.int (xs (i + 1))]) (rest := [.int r]) (c_X3_size l G am cI cZ (xs (i + 1)) v _ hw) S9 (cwV 1 hts gL_law_X3_size rfl rfl rfl (by decide +kernel) ⟨Nat.le_of_ble_eq_true rfl, Nat.le_of_ble_eq_true rfl⟩) (va_recv hK hPm (ci := 3) (q0 := 0) rfl rfl) hK2 hPm (hPc.app hPo) (perm_M (hDD u1 v f)) hS hA rfl hl.1 rfl (Nat.le_of_ble_eq_true rfl) dL_law_484 ⟨show cells ≤ 601024 by omega, show slots ≤ 7293000 by omega⟩ (fun r2 v1 H locs hw hPm hPb hS => ?_)
  have hPc := va_P_left hPb
  have hPo := va_P_right hPb
  obtain ⟨er, hsim⟩ := hw
  refine lv_icmp_eq (tgt := 822) hx hb dL_law_487 (by decide) (fun c1 => ?_) (fun c1 => ?_)
  · refine W.widen (k := cells + 1) (n := slots + 6) (by omega) (by omega) ?_
    exact hk H locs ls ⟨u1, v1, f, hsim, hPc, hPm, hPo, hS, hl⟩
  · exact absurd er c1
set_option maxHeartbeats 4000000 in
set_option maxRecDepth 100000 in
theorem case_floor (hB : lwB p s m c b L xs G ad am C V cI cZ ao cL) (hlt : l.stackTraces = false) (hi : i + 3 < L) (hc : cells + 1 ≤ 601024) (hs : slots + 6 ≤ 7293000) (hst : lwS s b G ad am C V cI cZ ao cL i H locs ls) (hk : ∀ (H : Heap) (locs : List Loc) (ls : Array Slot), lwS s b G ad am C V cI cZ ao cL i H locs ls → W p l e room_1 s m #[Value.ref b] below meth c H locs (cells + 1) (slots + 6) Q (F0 m 822 ls [])) : W p l e room_1 s m #[Value.ref b] below meth c H locs cells slots Q (F0 m 492 ls []) := by
  obtain ⟨S9, hX, hbl, hL, hK, hXI, hDD⟩ := hB
  obtain ⟨hx, hb, hml, hown, hts⟩ := id S9
  obtain ⟨u, v, f, hsim, hPc, hPm, hPo, hS, hl⟩ := hst
  have hA : ∀ q : Nat, s.heap.size ≤ q → (fun q : Nat => s.heap.size ≤ q) q := fun _ h => h
  have hbA : ¬ (fun q : Nat => s.heap.size ≤ q) b := Nat.not_le.mpr hbl
  have hK2 := hK.sub (tys' := ty2 cI cZ) [0, 1] rfl
  refine lv_aload_n hx hb dL_law_492 rfl (lv_at hl 2 rfl) ?_
  refine sld4 1 hx hb hX hbl hbA hS hL (by omega) (by decide) (lv_at hl 1 rfl) (lv_at hl 0 rfl) dL_law_493 dL_law_494 dL_law_496 dL_law_497 dL_law_498 ?_
  refine sld4 2 hx hb hX hbl hbA hS hL (by omega) (by decide) (lv_at hl 1 rfl) (lv_at hl 0 rfl) dL_law_499 dL_law_500 dL_law_502 dL_law_503 dL_law_504 ?_
  refine lv_aload_n hx hb dL_law_505 rfl (lv_at hl 4 rfl) ?_
  have hw := sim_floor hsim (xs (i + 1)) (xs (i + 2)) f
  refine CtO.call (wb := mw am cI cZ v) (rest := []) (c_L_floor l G ad C V cI cZ ao cL (xs (i + 1)) (xs (i + 2)) u f (fun k u1 f1 => wp_X3_floor (xs (i + 1)) (xs (i + 2)) v (ansL C V u1 f1 k)) hlt hw) S9 (vx_cwSW 4 hts gL_law_L_floor rfl rfl rfl (by decide +kernel) ⟨Nat.le_of_ble_eq_true rfl, Nat.le_of_ble_eq_true rfl⟩) hK (hPc.app hPo) hPm (perm_O (hDD u v f)) hXI hS hA hl.1 rfl (Nat.le_of_ble_eq_true rfl) dL_law_506 ⟨show cells + 1 ≤ 601024 by omega, show slots + 6 ≤ 7293000 by omega⟩ (fun k u1 f1 H locs hw hPco hPm hS => ?_)
  have hPc := va_P_left hPco
  have hPo := va_P_right hPco
  refine lv_istore (lv' := [(5, .int k), (4, .int (nI i)), (0, .ref b), (1, .ref (ad 0)), (2, .ref (am 0)), (3, .ref ao)]) hx hb dL_law_509 hl (by decide) rfl (fun ls hl => ?_)
  refine lv_aload_n hx hb dL_law_511 rfl (lv_at hl 4 rfl) ?_
  refine sld4 1 hx hb hX hbl hbA hS hL (by omega) (by decide) (lv_at hl 2 rfl) (lv_at hl 1 rfl) dL_law_512 dL_law_513 dL_law_515 dL_law_516 dL_law_517 ?_
  refine sld4 2 hx hb hX hbl hbA hS hL (by omega) (by decide) (lv_at hl 2 rfl) (lv_at hl 1 rfl) dL_law_518 dL_law_519 dL_law_521 dL_law_522 dL_law_523 ?_
  refine CtI.callF (wb := cw ad C V cI cZ u1 ++ [oc ao cL f1]) (As := [.int (xs (i + 1)), .int (xs (i + 2))]) (rest := []) (c_X3_floor l G am cI cZ (xs (i + 1)) (xs (i + 2)) v _ hw) S9 (cwV 2 hts gL_law_X3_floor rfl rfl rfl (by decide +kernel) ⟨Nat.le_of_ble_eq_true rfl, Nat.le_of_ble_eq_true rfl⟩) (va_recv hK hPm (ci := 3) (q0 := 0) rfl rfl) hK2 hPm (hPc.app hPo) (perm_M (hDD u1 v f1)) hS hA rfl hl.1 rfl (Nat.le_of_ble_eq_true rfl) dL_law_524 ⟨show cells + 1 ≤ 601024 by omega, show slots + 6 ≤ 7293000 by omega⟩ (fun r2 v1 H locs hw hPm hPb hS => ?_)
  have hPc := va_P_left hPb
  have hPo := va_P_right hPb
  obtain ⟨et, ea, hsim⟩ := hw
  refine lv_istore (lv' := [(6, .int r2), (5, .int k), (4, .int (nI i)), (0, .ref b), (1, .ref (ad 0)), (2, .ref (am 0)), (3, .ref ao)]) hx hb dL_law_527 hl (by decide) rfl (fun ls hl => ?_)
  refine lv_aload_n hx hb dL_law_529 rfl (lv_at hl 5 rfl) ?_
  refine CtI.callF (wb := cw ad C V cI cZ u1 ++ [oc ao cL f1]) (As := []) (rest := []) (c_X3_thrown l G am cI cZ v1 (fun t v2 => t = v1 0 0 ∧ v2 = v1) (nmI.mk ⟨rfl, rfl⟩)) S9 (cwV 0 hts gL_law_X3_thrown rfl rfl rfl (by decide +kernel) ⟨Nat.le_of_ble_eq_true rfl, Nat.le_of_ble_eq_true rfl⟩) (va_recv hK hPm (ci := 3) (q0 := 0) rfl rfl) hK2 hPm (hPc.app hPo) (perm_M (hDD u1 v1 f1)) hS hA rfl hl.1 rfl (Nat.le_of_ble_eq_true rfl) dL_law_530 ⟨show cells + 1 ≤ 601024 by omega, show slots + 6 ≤ 7293000 by omega⟩ (fun t v2 H locs hw hPm hPb hS => ?_)
  have hPc := va_P_left hPb
  have hPo := va_P_right hPb
  obtain ⟨e1, e2⟩ := hw
  rw [e2] at hPm
  refine lv_iload hx hb dL_law_533 (lv_at hl 1 rfl) ?_
  refine lv_icmp_eq (tgt := 540) hx hb dL_law_535 (by decide) (fun c1 => ?_) (fun c1 => ?_)
  rotate_left
  · exact absurd (e1.trans et) c1
  refine lv_iload hx hb dL_law_540 (lv_at hl 1 rfl) ?_
  have hend : W p l e room_1 s m #[Value.ref b] below meth c H locs (cells + 1) (slots + 6) Q (F0 m 557 ls []) := by
    refine lv_goto (tgt := 822) hx hb dL_law_557 (by decide) ?_
    exact hk H locs ls ⟨u1, v1, f1, hsim, hPc, hPm, hPo, hS, lv_sub hl [2, 3, 4, 5, 6] rfl⟩
  refine lv_if_ne (tgt := 557) hx hb dL_law_542 (by decide) (fun c2 => ?_) (fun c2 => ?_)
  · exact hend
  refine lv_aload_n hx hb dL_law_545 rfl (lv_at hl 6 rfl) ?_
  refine lv_iconst (v := 0) hx hb dL_law_546 (by decide) ?_
  refine va_lald hx hb hK hPo 0 2 (a := ao) (cA := cL) (n := 1) (f := f1) rfl rfl (i := 0) (by unfold vp_in; decide) dL_law_547 ?_
  refine lv_iload hx hb dL_law_548 (lv_at hl 0 rfl) ?_
  refine lv_i2l hx hb dL_law_550 rfl ?_
  refine W.lcmp hx hb dL_law_551 ?_
  refine lv_if_eq (tgt := 557) hx hb dL_law_552 (by decide) (fun c3 => ?_) (fun c3 => ?_)
  · exact hend
  · exact absurd (by rw [show f1 (Int32.toNatClampNeg 0) = r2.toInt64 from ea c2]; unfold lg_cmp; simp) c3
set_option maxHeartbeats 4000000 in
set_option maxRecDepth 100000 in
theorem case_keyAt (hB : lwB p s m c b L xs G ad am C V cI cZ ao cL) (hlt : l.stackTraces = false) (hi : i + 3 < L) (hc : cells + 1 ≤ 601024) (hs : slots + 6 ≤ 7293000) (hst : lwS s b G ad am C V cI cZ ao cL i H locs ls) (hk : ∀ (H : Heap) (locs : List Loc) (ls : Array Slot), lwS s b G ad am C V cI cZ ao cL i H locs ls → W p l e room_1 s m #[Value.ref b] below meth c H locs (cells + 1) (slots + 6) Q (F0 m 822 ls [])) : W p l e room_1 s m #[Value.ref b] below meth c H locs cells slots Q (F0 m 560 ls []) := by
  obtain ⟨S9, hX, hbl, hL, hK, hXI, hDD⟩ := hB
  obtain ⟨hx, hb, hml, hown, hts⟩ := id S9
  obtain ⟨u, v, f, hsim, hPc, hPm, hPo, hS, hl⟩ := hst
  have hA : ∀ q : Nat, s.heap.size ≤ q → (fun q : Nat => s.heap.size ≤ q) q := fun _ h => h
  have hbA : ¬ (fun q : Nat => s.heap.size ≤ q) b := Nat.not_le.mpr hbl
  have hK2 := hK.sub (tys' := ty2 cI cZ) [0, 1] rfl
  refine lv_aload_n hx hb dL_law_560 rfl (lv_at hl 2 rfl) ?_
  refine sld4 1 hx hb hX hbl hbA hS hL (by omega) (by decide) (lv_at hl 1 rfl) (lv_at hl 0 rfl) dL_law_561 dL_law_562 dL_law_564 dL_law_565 dL_law_566 ?_
  refine sld4 2 hx hb hX hbl hbA hS hL (by omega) (by decide) (lv_at hl 1 rfl) (lv_at hl 0 rfl) dL_law_567 dL_law_568 dL_law_570 dL_law_571 dL_law_572 ?_
  refine lv_aload_n hx hb dL_law_573 rfl (lv_at hl 4 rfl) ?_
  have hw := sim_keyAt hsim (xs (i + 1)) (xs (i + 2)) f
  refine CtO.call (wb := mw am cI cZ v) (rest := []) (c_L_keyAt l G ad C V cI cZ ao cL (xs (i + 1)) (xs (i + 2)) u f (fun k u1 f1 => wp_X3_keyAt (xs (i + 1)) (xs (i + 2)) v (ansL C V u1 f1 k)) hlt hw) S9 (vx_cwSW 4 hts gL_law_L_keyAt rfl rfl rfl (by decide +kernel) ⟨Nat.le_of_ble_eq_true rfl, Nat.le_of_ble_eq_true rfl⟩) hK (hPc.app hPo) hPm (perm_O (hDD u v f)) hXI hS hA hl.1 rfl (Nat.le_of_ble_eq_true rfl) dL_law_574 ⟨show cells + 1 ≤ 601024 by omega, show slots + 6 ≤ 7293000 by omega⟩ (fun k u1 f1 H locs hw hPco hPm hS => ?_)
  have hPc := va_P_left hPco
  have hPo := va_P_right hPco
  refine lv_istore (lv' := [(5, .int k), (4, .int (nI i)), (0, .ref b), (1, .ref (ad 0)), (2, .ref (am 0)), (3, .ref ao)]) hx hb dL_law_577 hl (by decide) rfl (fun ls hl => ?_)
  refine lv_aload_n hx hb dL_law_579 rfl (lv_at hl 4 rfl) ?_
  refine sld4 1 hx hb hX hbl hbA hS hL (by omega) (by decide) (lv_at hl 2 rfl) (lv_at hl 1 rfl) dL_law_580 dL_law_581 dL_law_583 dL_law_584 dL_law_585 ?_
  refine sld4 2 hx hb hX hbl hbA hS hL (by omega) (by decide) (lv_at hl 2 rfl) (lv_at hl 1 rfl) dL_law_586 dL_law_587 dL_law_589 dL_law_590 dL_law_591 ?_
  refine CtI.callF (wb := cw ad C V cI cZ u1 ++ [oc ao cL f1]) (As := [.int (xs (i + 1)), .int (xs (i + 2))]) (rest := []) (c_X3_keyAt l G am cI cZ (xs (i + 1)) (xs (i + 2)) v _ hw) S9 (cwV 2 hts gL_law_X3_keyAt rfl rfl rfl (by decide +kernel) ⟨Nat.le_of_ble_eq_true rfl, Nat.le_of_ble_eq_true rfl⟩) (va_recv hK hPm (ci := 3) (q0 := 0) rfl rfl) hK2 hPm (hPc.app hPo) (perm_M (hDD u1 v f1)) hS hA rfl hl.1 rfl (Nat.le_of_ble_eq_true rfl) dL_law_592 ⟨show cells + 1 ≤ 601024 by omega, show slots + 6 ≤ 7293000 by omega⟩ (fun r2 v1 H locs hw hPm hPb hS => ?_)
  have hPc := va_P_left hPb
  have hPo := va_P_right hPb
  obtain ⟨et, ea, hsim⟩ := hw
  refine lv_istore (lv' := [(6, .int r2), (5, .int k), (4, .int (nI i)), (0, .ref b), (1, .ref (ad 0)), (2, .ref (am 0)), (3, .ref ao)]) hx hb dL_law_595 hl (by decide) rfl (fun ls hl => ?_)
  refine lv_aload_n hx hb dL_law_597 rfl (lv_at hl 5 rfl) ?_
  refine CtI.callF (wb := cw ad C V cI cZ u1 ++ [oc ao cL f1]) (As := []) (rest := []) (c_X3_thrown l G am cI cZ v1 (fun t v2 => t = v1 0 0 ∧ v2 = v1) (nmI.mk ⟨rfl, rfl⟩)) S9 (cwV 0 hts gL_law_X3_thrown rfl rfl rfl (by decide +kernel) ⟨Nat.le_of_ble_eq_true rfl, Nat.le_of_ble_eq_true rfl⟩) (va_recv hK hPm (ci := 3) (q0 := 0) rfl rfl) hK2 hPm (hPc.app hPo) (perm_M (hDD u1 v1 f1)) hS hA rfl hl.1 rfl (Nat.le_of_ble_eq_true rfl) dL_law_598 ⟨show cells + 1 ≤ 601024 by omega, show slots + 6 ≤ 7293000 by omega⟩ (fun t v2 H locs hw hPm hPb hS => ?_)
  have hPc := va_P_left hPb
  have hPo := va_P_right hPb
  obtain ⟨e1, e2⟩ := hw
  rw [e2] at hPm
  refine lv_iload hx hb dL_law_601 (lv_at hl 1 rfl) ?_
  refine lv_icmp_eq (tgt := 608) hx hb dL_law_603 (by decide) (fun c1 => ?_) (fun c1 => ?_)
  rotate_left
  · exact absurd (e1.trans et) c1
  refine lv_iload hx hb dL_law_608 (lv_at hl 1 rfl) ?_
  have hend : W p l e room_1 s m #[Value.ref b] below meth c H locs (cells + 1) (slots + 6) Q (F0 m 625 ls []) := by
    refine lv_goto (tgt := 822) hx hb dL_law_625 (by decide) ?_
    exact hk H locs ls ⟨u1, v1, f1, hsim, hPc, hPm, hPo, hS, lv_sub hl [2, 3, 4, 5, 6] rfl⟩
  refine lv_if_ne (tgt := 625) hx hb dL_law_610 (by decide) (fun c2 => ?_) (fun c2 => ?_)
  · exact hend
  refine lv_aload_n hx hb dL_law_613 rfl (lv_at hl 6 rfl) ?_
  refine lv_iconst (v := 0) hx hb dL_law_614 (by decide) ?_
  refine va_lald hx hb hK hPo 0 2 (a := ao) (cA := cL) (n := 1) (f := f1) rfl rfl (i := 0) (by unfold vp_in; decide) dL_law_615 ?_
  refine lv_iload hx hb dL_law_616 (lv_at hl 0 rfl) ?_
  refine lv_i2l hx hb dL_law_618 rfl ?_
  refine W.lcmp hx hb dL_law_619 ?_
  refine lv_if_eq (tgt := 625) hx hb dL_law_620 (by decide) (fun c3 => ?_) (fun c3 => ?_)
  · exact hend
  · exact absurd (by rw [show f1 (Int32.toNatClampNeg 0) = r2.toInt64 from ea c2]; unfold lg_cmp; simp) c3
set_option maxHeartbeats 4000000 in
set_option maxRecDepth 100000 in
theorem case_sum (hB : lwB p s m c b L xs G ad am C V cI cZ ao cL) (hlt : l.stackTraces = false) (hi : i + 3 < L) (hc : cells + 1 ≤ 601024) (hs : slots + 6 ≤ 7293000) (hst : lwS s b G ad am C V cI cZ ao cL i H locs ls) (hk : ∀ (H : Heap) (locs : List Loc) (ls : Array Slot), lwS s b G ad am C V cI cZ ao cL i H locs ls → W p l e room_1 s m #[Value.ref b] below meth c H locs (cells + 1) (slots + 6) Q (F0 m 822 ls [])) : W p l e room_1 s m #[Value.ref b] below meth c H locs cells slots Q (F0 m 628 ls []) := by
  obtain ⟨S9, hX, hbl, hL, hK, hXI, hDD⟩ := hB
  obtain ⟨hx, hb, hml, hown, hts⟩ := id S9
  obtain ⟨u, v, f, hsim, hPc, hPm, hPo, hS, hl⟩ := hst
  have hA : ∀ q : Nat, s.heap.size ≤ q → (fun q : Nat => s.heap.size ≤ q) q := fun _ h => h
  have hbA : ¬ (fun q : Nat => s.heap.size ≤ q) b := Nat.not_le.mpr hbl
  have hK2 := hK.sub (tys' := ty2 cI cZ) [0, 1] rfl
  refine lv_aload_n hx hb dL_law_628 rfl (lv_at hl 2 rfl) ?_
  refine sld4 1 hx hb hX hbl hbA hS hL (by omega) (by decide) (lv_at hl 1 rfl) (lv_at hl 0 rfl) dL_law_629 dL_law_630 dL_law_632 dL_law_633 dL_law_634 ?_
  refine sld4 2 hx hb hX hbl hbA hS hL (by omega) (by decide) (lv_at hl 1 rfl) (lv_at hl 0 rfl) dL_law_635 dL_law_636 dL_law_638 dL_law_639 dL_law_640 ?_
  refine sld4 3 hx hb hX hbl hbA hS hL (by omega) (by decide) (lv_at hl 1 rfl) (lv_at hl 0 rfl) dL_law_641 dL_law_642 dL_law_644 dL_law_645 dL_law_646 ?_
  have hw := sim_sum hsim (xs (i + 1)) (xs (i + 2)) (xs (i + 3))
  refine CtL.callF (wb := mw am cI cZ v ++ [oc ao cL f]) (As := [.int (xs (i + 1)), .int (xs (i + 2)), .int (xs (i + 3))]) (rest := []) (c_X2_sum l G ad C V cI cZ (xs (i + 1)) (xs (i + 2)) (xs (i + 3)) u _ hw) S9 (cwV 3 hts gL_law_X2_sum rfl rfl rfl (by decide +kernel) ⟨Nat.le_of_ble_eq_true rfl, Nat.le_of_ble_eq_true rfl⟩) (va_recv hK hPc (ci := 2) (q0 := 0) rfl rfl) hK2 hPc (hPm.app hPo) (hDD u v f) hS hA rfl hl.1 rfl (Nat.le_of_ble_eq_true rfl) dL_law_647 ⟨show cells ≤ 601024 by omega, show slots ≤ 7293000 by omega⟩ (fun r u1 H locs hw hPc hPb hS => ?_)
  have hPm := va_P_left hPb
  have hPo := va_P_right hPb
  refine lv_aload_n hx hb dL_law_650 rfl (lv_at hl 3 rfl) ?_
  refine sld4 1 hx hb hX hbl hbA hS hL (by omega) (by decide) (lv_at hl 1 rfl) (lv_at hl 0 rfl) dL_law_651 dL_law_652 dL_law_654 dL_law_655 dL_law_656 ?_
  refine sld4 2 hx hb hX hbl hbA hS hL (by omega) (by decide) (lv_at hl 1 rfl) (lv_at hl 0 rfl) dL_law_657 dL_law_658 dL_law_660 dL_law_661 dL_law_662 ?_
  refine sld4 3 hx hb hX hbl hbA hS hL (by omega) (by decide) (lv_at hl 1 rfl) (lv_at hl 0 rfl) dL_law_663 dL_law_664 dL_law_666 dL_law_667 dL_law_668 ?_
  refine CtL.callF (wb := cw ad C V cI cZ u1 ++ [oc ao cL f]) (As := [.int (xs (i + 1)), .int (xs (i + 2)), .int (xs (i + 3))]) (rest := [.long r]) (c_X3_sum l G am cI cZ (xs (i + 1)) (xs (i + 2)) (xs (i + 3)) v _ hw) S9 (cwV 3 hts gL_law_X3_sum rfl rfl rfl (by decide +kernel) ⟨Nat.le_of_ble_eq_true rfl, Nat.le_of_ble_eq_true rfl⟩) (va_recv hK hPm (ci := 3) (q0 := 0) rfl rfl) hK2 hPm (hPc.app hPo) (perm_M (hDD u1 v f)) hS hA rfl hl.1 rfl (Nat.le_of_ble_eq_true rfl) dL_law_669 ⟨show cells ≤ 601024 by omega, show slots ≤ 7293000 by omega⟩ (fun r2 v1 H locs hw hPm hPb hS => ?_)
  have hPc := va_P_left hPb
  have hPo := va_P_right hPb
  obtain ⟨er, hsim⟩ := hw
  refine W.lcmp hx hb dL_law_672 ?_
  refine lv_if_eq (tgt := 822) hx hb dL_law_673 (by decide) (fun c1 => ?_) (fun c1 => ?_)
  · refine W.widen (k := cells + 1) (n := slots + 6) (by omega) (by omega) ?_
    exact hk H locs ls ⟨u1, v1, f, hsim, hPc, hPm, hPo, hS, hl⟩
  · exact absurd (by rw [er]; unfold lg_cmp; simp) c1
set_option maxHeartbeats 4000000 in
set_option maxRecDepth 100000 in
theorem case_depth (hB : lwB p s m c b L xs G ad am C V cI cZ ao cL) (hlt : l.stackTraces = false) (hi : i + 3 < L) (hc : cells + 1 ≤ 601024) (hs : slots + 6 ≤ 7293000) (hst : lwS s b G ad am C V cI cZ ao cL i H locs ls) (hk : ∀ (H : Heap) (locs : List Loc) (ls : Array Slot), lwS s b G ad am C V cI cZ ao cL i H locs ls → W p l e room_1 s m #[Value.ref b] below meth c H locs (cells + 1) (slots + 6) Q (F0 m 822 ls [])) : W p l e room_1 s m #[Value.ref b] below meth c H locs cells slots Q (F0 m 678 ls []) := by
  obtain ⟨S9, hX, hbl, hL, hK, hXI, hDD⟩ := hB
  obtain ⟨hx, hb, hml, hown, hts⟩ := id S9
  obtain ⟨u, v, f, hsim, hPc, hPm, hPo, hS, hl⟩ := hst
  have hA : ∀ q : Nat, s.heap.size ≤ q → (fun q : Nat => s.heap.size ≤ q) q := fun _ h => h
  have hbA : ¬ (fun q : Nat => s.heap.size ≤ q) b := Nat.not_le.mpr hbl
  have hK2 := hK.sub (tys' := ty2 cI cZ) [0, 1] rfl
  refine lv_aload_n hx hb dL_law_678 rfl (lv_at hl 2 rfl) ?_
  refine sld4 1 hx hb hX hbl hbA hS hL (by omega) (by decide) (lv_at hl 1 rfl) (lv_at hl 0 rfl) dL_law_679 dL_law_680 dL_law_682 dL_law_683 dL_law_684 ?_
  refine sld4 2 hx hb hX hbl hbA hS hL (by omega) (by decide) (lv_at hl 1 rfl) (lv_at hl 0 rfl) dL_law_685 dL_law_686 dL_law_688 dL_law_689 dL_law_690 ?_
  refine lv_aload_n hx hb dL_law_691 rfl (lv_at hl 4 rfl) ?_
  have hw := sim_depth hsim (xs (i + 1)) (xs (i + 2)) f
  refine CtO.call (wb := mw am cI cZ v) (rest := []) (c_L_depth l G ad C V cI cZ ao cL (xs (i + 1)) (xs (i + 2)) u f (fun k u1 f1 => wp_X3_depth (xs (i + 1)) (xs (i + 2)) v (ansL C V u1 f1 k)) hlt hw) S9 (vx_cwSW 4 hts gL_law_L_depth rfl rfl rfl (by decide +kernel) ⟨Nat.le_of_ble_eq_true rfl, Nat.le_of_ble_eq_true rfl⟩) hK (hPc.app hPo) hPm (perm_O (hDD u v f)) hXI hS hA hl.1 rfl (Nat.le_of_ble_eq_true rfl) dL_law_692 ⟨show cells + 1 ≤ 601024 by omega, show slots + 6 ≤ 7293000 by omega⟩ (fun k u1 f1 H locs hw hPco hPm hS => ?_)
  have hPc := va_P_left hPco
  have hPo := va_P_right hPco
  refine lv_istore (lv' := [(5, .int k), (4, .int (nI i)), (0, .ref b), (1, .ref (ad 0)), (2, .ref (am 0)), (3, .ref ao)]) hx hb dL_law_695 hl (by decide) rfl (fun ls hl => ?_)
  refine lv_aload_n hx hb dL_law_697 rfl (lv_at hl 4 rfl) ?_
  refine sld4 1 hx hb hX hbl hbA hS hL (by omega) (by decide) (lv_at hl 2 rfl) (lv_at hl 1 rfl) dL_law_698 dL_law_699 dL_law_701 dL_law_702 dL_law_703 ?_
  refine sld4 2 hx hb hX hbl hbA hS hL (by omega) (by decide) (lv_at hl 2 rfl) (lv_at hl 1 rfl) dL_law_704 dL_law_705 dL_law_707 dL_law_708 dL_law_709 ?_
  refine CtI.callF (wb := cw ad C V cI cZ u1 ++ [oc ao cL f1]) (As := [.int (xs (i + 1)), .int (xs (i + 2))]) (rest := []) (c_X3_depth l G am cI cZ (xs (i + 1)) (xs (i + 2)) v _ hw) S9 (cwV 2 hts gL_law_X3_depth rfl rfl rfl (by decide +kernel) ⟨Nat.le_of_ble_eq_true rfl, Nat.le_of_ble_eq_true rfl⟩) (va_recv hK hPm (ci := 3) (q0 := 0) rfl rfl) hK2 hPm (hPc.app hPo) (perm_M (hDD u1 v f1)) hS hA rfl hl.1 rfl (Nat.le_of_ble_eq_true rfl) dL_law_710 ⟨show cells + 1 ≤ 601024 by omega, show slots + 6 ≤ 7293000 by omega⟩ (fun r2 v1 H locs hw hPm hPb hS => ?_)
  have hPc := va_P_left hPb
  have hPo := va_P_right hPb
  obtain ⟨et, ea, hsim⟩ := hw
  refine lv_istore (lv' := [(6, .int r2), (5, .int k), (4, .int (nI i)), (0, .ref b), (1, .ref (ad 0)), (2, .ref (am 0)), (3, .ref ao)]) hx hb dL_law_713 hl (by decide) rfl (fun ls hl => ?_)
  refine lv_aload_n hx hb dL_law_715 rfl (lv_at hl 5 rfl) ?_
  refine CtI.callF (wb := cw ad C V cI cZ u1 ++ [oc ao cL f1]) (As := []) (rest := []) (c_X3_thrown l G am cI cZ v1 (fun t v2 => t = v1 0 0 ∧ v2 = v1) (nmI.mk ⟨rfl, rfl⟩)) S9 (cwV 0 hts gL_law_X3_thrown rfl rfl rfl (by decide +kernel) ⟨Nat.le_of_ble_eq_true rfl, Nat.le_of_ble_eq_true rfl⟩) (va_recv hK hPm (ci := 3) (q0 := 0) rfl rfl) hK2 hPm (hPc.app hPo) (perm_M (hDD u1 v1 f1)) hS hA rfl hl.1 rfl (Nat.le_of_ble_eq_true rfl) dL_law_716 ⟨show cells + 1 ≤ 601024 by omega, show slots + 6 ≤ 7293000 by omega⟩ (fun t v2 H locs hw hPm hPb hS => ?_)
  have hPc := va_P_left hPb
  have hPo := va_P_right hPb
  obtain ⟨e1, e2⟩ := hw
  rw [e2] at hPm
  refine lv_iload hx hb dL_law_719 (lv_at hl 1 rfl) ?_
  refine lv_icmp_eq (tgt := 726) hx hb dL_law_721 (by decide) (fun c1 => ?_) (fun c1 => ?_)
  rotate_left
  · exact absurd (e1.trans et) c1
  refine lv_iload hx hb dL_law_726 (lv_at hl 1 rfl) ?_
  have hend : W p l e room_1 s m #[Value.ref b] below meth c H locs (cells + 1) (slots + 6) Q (F0 m 743 ls []) := by
    refine lv_goto (tgt := 822) hx hb dL_law_743 (by decide) ?_
    exact hk H locs ls ⟨u1, v1, f1, hsim, hPc, hPm, hPo, hS, lv_sub hl [2, 3, 4, 5, 6] rfl⟩
  refine lv_if_ne (tgt := 743) hx hb dL_law_728 (by decide) (fun c2 => ?_) (fun c2 => ?_)
  · exact hend
  refine lv_aload_n hx hb dL_law_731 rfl (lv_at hl 6 rfl) ?_
  refine lv_iconst (v := 0) hx hb dL_law_732 (by decide) ?_
  refine va_lald hx hb hK hPo 0 2 (a := ao) (cA := cL) (n := 1) (f := f1) rfl rfl (i := 0) (by unfold vp_in; decide) dL_law_733 ?_
  refine lv_iload hx hb dL_law_734 (lv_at hl 0 rfl) ?_
  refine lv_i2l hx hb dL_law_736 rfl ?_
  refine W.lcmp hx hb dL_law_737 ?_
  refine lv_if_eq (tgt := 743) hx hb dL_law_738 (by decide) (fun c3 => ?_) (fun c3 => ?_)
  · exact hend
  · exact absurd (by rw [show f1 (Int32.toNatClampNeg 0) = r2.toInt64 from ea c2]; unfold lg_cmp; simp) c3
set_option maxHeartbeats 4000000 in
set_option maxRecDepth 100000 in
theorem case_shared (hB : lwB p s m c b L xs G ad am C V cI cZ ao cL) (hlt : l.stackTraces = false) (hi : i + 3 < L) (hc : cells + 1 ≤ 601024) (hs : slots + 6 ≤ 7293000) (hst : lwS s b G ad am C V cI cZ ao cL i H locs ls) (hk : ∀ (H : Heap) (locs : List Loc) (ls : Array Slot), lwS s b G ad am C V cI cZ ao cL i H locs ls → W p l e room_1 s m #[Value.ref b] below meth c H locs (cells + 1) (slots + 6) Q (F0 m 822 ls [])) : W p l e room_1 s m #[Value.ref b] below meth c H locs cells slots Q (F0 m 746 ls []) := by
  obtain ⟨S9, hX, hbl, hL, hK, hXI, hDD⟩ := hB
  obtain ⟨hx, hb, hml, hown, hts⟩ := id S9
  obtain ⟨u, v, f, hsim, hPc, hPm, hPo, hS, hl⟩ := hst
  have hA : ∀ q : Nat, s.heap.size ≤ q → (fun q : Nat => s.heap.size ≤ q) q := fun _ h => h
  have hbA : ¬ (fun q : Nat => s.heap.size ≤ q) b := Nat.not_le.mpr hbl
  have hK2 := hK.sub (tys' := ty2 cI cZ) [0, 1] rfl
  refine lv_aload_n hx hb dL_law_746 rfl (lv_at hl 2 rfl) ?_
  refine sld4 1 hx hb hX hbl hbA hS hL (by omega) (by decide) (lv_at hl 1 rfl) (lv_at hl 0 rfl) dL_law_747 dL_law_748 dL_law_750 dL_law_751 dL_law_752 ?_
  refine sld4 2 hx hb hX hbl hbA hS hL (by omega) (by decide) (lv_at hl 1 rfl) (lv_at hl 0 rfl) dL_law_753 dL_law_754 dL_law_756 dL_law_757 dL_law_758 ?_
  have hw := sim_shared hsim (xs (i + 1)) (xs (i + 2))
  refine CtI.callF (wb := mw am cI cZ v ++ [oc ao cL f]) (As := [.int (xs (i + 1)), .int (xs (i + 2))]) (rest := []) (c_X2_shared l G ad C V cI cZ (xs (i + 1)) (xs (i + 2)) u _ hw) S9 (cwV 2 hts gL_law_X2_shared rfl rfl rfl (by decide +kernel) ⟨Nat.le_of_ble_eq_true rfl, Nat.le_of_ble_eq_true rfl⟩) (va_recv hK hPc (ci := 2) (q0 := 0) rfl rfl) hK2 hPc (hPm.app hPo) (hDD u v f) hS hA rfl hl.1 rfl (Nat.le_of_ble_eq_true rfl) dL_law_759 ⟨show cells ≤ 601024 by omega, show slots ≤ 7293000 by omega⟩ (fun r u1 H locs hw hPc hPb hS => ?_)
  have hPm := va_P_left hPb
  have hPo := va_P_right hPb
  refine lv_aload_n hx hb dL_law_762 rfl (lv_at hl 3 rfl) ?_
  refine sld4 1 hx hb hX hbl hbA hS hL (by omega) (by decide) (lv_at hl 1 rfl) (lv_at hl 0 rfl) dL_law_763 dL_law_764 dL_law_766 dL_law_767 dL_law_768 ?_
  refine sld4 2 hx hb hX hbl hbA hS hL (by omega) (by decide) (lv_at hl 1 rfl) (lv_at hl 0 rfl) dL_law_769 dL_law_770 dL_law_772 dL_law_773 dL_law_774 ?_
  refine CtI.callF (wb := cw ad C V cI cZ u1 ++ [oc ao cL f]) (As := [.int (xs (i + 1)), .int (xs (i + 2))]) (rest := [.int r]) (c_X3_shared l G am cI cZ (xs (i + 1)) (xs (i + 2)) v _ hw) S9 (cwV 2 hts gL_law_X3_shared rfl rfl rfl (by decide +kernel) ⟨Nat.le_of_ble_eq_true rfl, Nat.le_of_ble_eq_true rfl⟩) (va_recv hK hPm (ci := 3) (q0 := 0) rfl rfl) hK2 hPm (hPc.app hPo) (perm_M (hDD u1 v f)) hS hA rfl hl.1 rfl (Nat.le_of_ble_eq_true rfl) dL_law_775 ⟨show cells ≤ 601024 by omega, show slots ≤ 7293000 by omega⟩ (fun r2 v1 H locs hw hPm hPb hS => ?_)
  have hPc := va_P_left hPb
  have hPo := va_P_right hPb
  obtain ⟨er, hsim⟩ := hw
  refine lv_icmp_eq (tgt := 822) hx hb dL_law_778 (by decide) (fun c1 => ?_) (fun c1 => ?_)
  · refine W.widen (k := cells + 1) (n := slots + 6) (by omega) (by omega) ?_
    exact hk H locs ls ⟨u1, v1, f, hsim, hPc, hPm, hPo, hS, hl⟩
  · exact absurd er c1
set_option maxHeartbeats 4000000 in
set_option maxRecDepth 100000 in
theorem case_nodes (hB : lwB p s m c b L xs G ad am C V cI cZ ao cL) (hlt : l.stackTraces = false) (hi : i + 3 < L) (hc : cells + 1 ≤ 601024) (hs : slots + 6 ≤ 7293000) (hst : lwS s b G ad am C V cI cZ ao cL i H locs ls) (hk : ∀ (H : Heap) (locs : List Loc) (ls : Array Slot), lwS s b G ad am C V cI cZ ao cL i H locs ls → W p l e room_1 s m #[Value.ref b] below meth c H locs (cells + 1) (slots + 6) Q (F0 m 822 ls [])) : W p l e room_1 s m #[Value.ref b] below meth c H locs cells slots Q (F0 m 783 ls []) := by
  obtain ⟨S9, hX, hbl, hL, hK, hXI, hDD⟩ := hB
  obtain ⟨hx, hb, hml, hown, hts⟩ := id S9
  obtain ⟨u, v, f, hsim, hPc, hPm, hPo, hS, hl⟩ := hst
  have hA : ∀ q : Nat, s.heap.size ≤ q → (fun q : Nat => s.heap.size ≤ q) q := fun _ h => h
  have hbA : ¬ (fun q : Nat => s.heap.size ≤ q) b := Nat.not_le.mpr hbl
  have hK2 := hK.sub (tys' := ty2 cI cZ) [0, 1] rfl
  refine lv_aload_n hx hb dL_law_783 rfl (lv_at hl 2 rfl) ?_
  have hw := sim_nodes hsim 
  refine CtI.callF (wb := mw am cI cZ v ++ [oc ao cL f]) (As := []) (rest := []) (c_X2_nodes l G ad C V cI cZ u _ hw) S9 (cwV 0 hts gL_law_X2_nodes rfl rfl rfl (by decide +kernel) ⟨Nat.le_of_ble_eq_true rfl, Nat.le_of_ble_eq_true rfl⟩) (va_recv hK hPc (ci := 2) (q0 := 0) rfl rfl) hK2 hPc (hPm.app hPo) (hDD u v f) hS hA rfl hl.1 rfl (Nat.le_of_ble_eq_true rfl) dL_law_784 ⟨show cells ≤ 601024 by omega, show slots ≤ 7293000 by omega⟩ (fun r u1 H locs hw hPc hPb hS => ?_)
  have hPm := va_P_left hPb
  have hPo := va_P_right hPb
  refine lv_aload_n hx hb dL_law_787 rfl (lv_at hl 3 rfl) ?_
  refine CtI.callF (wb := cw ad C V cI cZ u1 ++ [oc ao cL f]) (As := []) (rest := [.int r]) (c_X3_nodes l G am cI cZ v _ hw) S9 (cwV 0 hts gL_law_X3_nodes rfl rfl rfl (by decide +kernel) ⟨Nat.le_of_ble_eq_true rfl, Nat.le_of_ble_eq_true rfl⟩) (va_recv hK hPm (ci := 3) (q0 := 0) rfl rfl) hK2 hPm (hPc.app hPo) (perm_M (hDD u1 v f)) hS hA rfl hl.1 rfl (Nat.le_of_ble_eq_true rfl) dL_law_788 ⟨show cells ≤ 601024 by omega, show slots ≤ 7293000 by omega⟩ (fun r2 v1 H locs hw hPm hPb hS => ?_)
  have hPc := va_P_left hPb
  have hPo := va_P_right hPb
  obtain ⟨er, hsim⟩ := hw
  refine lv_icmp_eq (tgt := 822) hx hb dL_law_791 (by decide) (fun c1 => ?_) (fun c1 => ?_)
  · refine W.widen (k := cells + 1) (n := slots + 6) (by omega) (by omega) ?_
    exact hk H locs ls ⟨u1, v1, f, hsim, hPc, hPm, hPo, hS, hl⟩
  · exact absurd er c1
set_option maxHeartbeats 4000000 in
set_option maxRecDepth 100000 in
theorem case_used (hB : lwB p s m c b L xs G ad am C V cI cZ ao cL) (hlt : l.stackTraces = false) (hi : i + 3 < L) (hc : cells + 1 ≤ 601024) (hs : slots + 6 ≤ 7293000) (hst : lwS s b G ad am C V cI cZ ao cL i H locs ls) (hk : ∀ (H : Heap) (locs : List Loc) (ls : Array Slot), lwS s b G ad am C V cI cZ ao cL i H locs ls → W p l e room_1 s m #[Value.ref b] below meth c H locs (cells + 1) (slots + 6) Q (F0 m 822 ls [])) : W p l e room_1 s m #[Value.ref b] below meth c H locs cells slots Q (F0 m 796 ls []) := by
  obtain ⟨S9, hX, hbl, hL, hK, hXI, hDD⟩ := hB
  obtain ⟨hx, hb, hml, hown, hts⟩ := id S9
  obtain ⟨u, v, f, hsim, hPc, hPm, hPo, hS, hl⟩ := hst
  have hA : ∀ q : Nat, s.heap.size ≤ q → (fun q : Nat => s.heap.size ≤ q) q := fun _ h => h
  have hbA : ¬ (fun q : Nat => s.heap.size ≤ q) b := Nat.not_le.mpr hbl
  have hK2 := hK.sub (tys' := ty2 cI cZ) [0, 1] rfl
  refine lv_aload_n hx hb dL_law_796 rfl (lv_at hl 2 rfl) ?_
  have hw := sim_used hsim 
  refine CtI.callF (wb := mw am cI cZ v ++ [oc ao cL f]) (As := []) (rest := []) (c_X2_used l G ad C V cI cZ u _ hw) S9 (cwV 0 hts gL_law_X2_used rfl rfl rfl (by decide +kernel) ⟨Nat.le_of_ble_eq_true rfl, Nat.le_of_ble_eq_true rfl⟩) (va_recv hK hPc (ci := 2) (q0 := 0) rfl rfl) hK2 hPc (hPm.app hPo) (hDD u v f) hS hA rfl hl.1 rfl (Nat.le_of_ble_eq_true rfl) dL_law_797 ⟨show cells ≤ 601024 by omega, show slots ≤ 7293000 by omega⟩ (fun r u1 H locs hw hPc hPb hS => ?_)
  have hPm := va_P_left hPb
  have hPo := va_P_right hPb
  refine lv_aload_n hx hb dL_law_800 rfl (lv_at hl 3 rfl) ?_
  refine CtI.callF (wb := cw ad C V cI cZ u1 ++ [oc ao cL f]) (As := []) (rest := [.int r]) (c_X3_used l G am cI cZ v _ hw) S9 (cwV 0 hts gL_law_X3_used rfl rfl rfl (by decide +kernel) ⟨Nat.le_of_ble_eq_true rfl, Nat.le_of_ble_eq_true rfl⟩) (va_recv hK hPm (ci := 3) (q0 := 0) rfl rfl) hK2 hPm (hPc.app hPo) (perm_M (hDD u1 v f)) hS hA rfl hl.1 rfl (Nat.le_of_ble_eq_true rfl) dL_law_801 ⟨show cells ≤ 601024 by omega, show slots ≤ 7293000 by omega⟩ (fun r2 v1 H locs hw hPm hPb hS => ?_)
  have hPc := va_P_left hPb
  have hPo := va_P_right hPb
  obtain ⟨er, hsim⟩ := hw
  refine lv_icmp_eq (tgt := 822) hx hb dL_law_804 (by decide) (fun c1 => ?_) (fun c1 => ?_)
  · refine W.widen (k := cells + 1) (n := slots + 6) (by omega) (by omega) ?_
    exact hk H locs ls ⟨u1, v1, f, hsim, hPc, hPm, hPo, hS, hl⟩
  · exact absurd er c1
set_option maxHeartbeats 4000000 in
set_option maxRecDepth 100000 in
theorem case_sweeps (hB : lwB p s m c b L xs G ad am C V cI cZ ao cL) (hlt : l.stackTraces = false) (hi : i + 3 < L) (hc : cells + 1 ≤ 601024) (hs : slots + 6 ≤ 7293000) (hst : lwS s b G ad am C V cI cZ ao cL i H locs ls) (hk : ∀ (H : Heap) (locs : List Loc) (ls : Array Slot), lwS s b G ad am C V cI cZ ao cL i H locs ls → W p l e room_1 s m #[Value.ref b] below meth c H locs (cells + 1) (slots + 6) Q (F0 m 822 ls [])) : W p l e room_1 s m #[Value.ref b] below meth c H locs cells slots Q (F0 m 809 ls []) := by
  obtain ⟨S9, hX, hbl, hL, hK, hXI, hDD⟩ := hB
  obtain ⟨hx, hb, hml, hown, hts⟩ := id S9
  obtain ⟨u, v, f, hsim, hPc, hPm, hPo, hS, hl⟩ := hst
  have hA : ∀ q : Nat, s.heap.size ≤ q → (fun q : Nat => s.heap.size ≤ q) q := fun _ h => h
  have hbA : ¬ (fun q : Nat => s.heap.size ≤ q) b := Nat.not_le.mpr hbl
  have hK2 := hK.sub (tys' := ty2 cI cZ) [0, 1] rfl
  refine lv_aload_n hx hb dL_law_809 rfl (lv_at hl 2 rfl) ?_
  have hw := sim_sweeps hsim 
  refine CtI.callF (wb := mw am cI cZ v ++ [oc ao cL f]) (As := []) (rest := []) (c_X2_sweeps l G ad C V cI cZ u _ hw) S9 (cwV 0 hts gL_law_X2_sweeps rfl rfl rfl (by decide +kernel) ⟨Nat.le_of_ble_eq_true rfl, Nat.le_of_ble_eq_true rfl⟩) (va_recv hK hPc (ci := 2) (q0 := 0) rfl rfl) hK2 hPc (hPm.app hPo) (hDD u v f) hS hA rfl hl.1 rfl (Nat.le_of_ble_eq_true rfl) dL_law_810 ⟨show cells ≤ 601024 by omega, show slots ≤ 7293000 by omega⟩ (fun r u1 H locs hw hPc hPb hS => ?_)
  have hPm := va_P_left hPb
  have hPo := va_P_right hPb
  refine lv_aload_n hx hb dL_law_813 rfl (lv_at hl 3 rfl) ?_
  refine CtI.callF (wb := cw ad C V cI cZ u1 ++ [oc ao cL f]) (As := []) (rest := [.int r]) (c_X3_sweeps l G am cI cZ v _ hw) S9 (cwV 0 hts gL_law_X3_sweeps rfl rfl rfl (by decide +kernel) ⟨Nat.le_of_ble_eq_true rfl, Nat.le_of_ble_eq_true rfl⟩) (va_recv hK hPm (ci := 3) (q0 := 0) rfl rfl) hK2 hPm (hPc.app hPo) (perm_M (hDD u1 v f)) hS hA rfl hl.1 rfl (Nat.le_of_ble_eq_true rfl) dL_law_814 ⟨show cells ≤ 601024 by omega, show slots ≤ 7293000 by omega⟩ (fun r2 v1 H locs hw hPm hPb hS => ?_)
  have hPc := va_P_left hPb
  have hPo := va_P_right hPb
  obtain ⟨er, hsim⟩ := hw
  refine lv_icmp_eq (tgt := 822) hx hb dL_law_817 (by decide) (fun c1 => ?_) (fun c1 => ?_)
  · refine W.widen (k := cells + 1) (n := slots + 6) (by omega) (by omega) ?_
    exact hk H locs ls ⟨u1, v1, f, hsim, hPc, hPm, hPo, hS, hl⟩
  · exact absurd er c1
end Cases
end LawC
