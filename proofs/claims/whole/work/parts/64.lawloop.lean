/-! the law's loop -/
section LawLoop
theorem sub4 {L i : Nat} (hL : L ≤ 2051) (hi : i ≤ 2060) : nI L - 4 < nI i ↔ L < i + 4 := by
  rcases Nat.lt_or_ge L 4 with h | h
  · refine ⟨fun _ => by omega, fun _ => ?_⟩
    have h1 : nI L - 4 < 0 := by
      rcases (show L = 0 ∨ L = 1 ∨ L = 2 ∨ L = 3 by omega) with rfl | rfl | rfl | rfl <;> decide
    exact Int32.lt_of_lt_of_le h1 (nI_pos' (by omega))
  · obtain ⟨k, rfl⟩ : ∃ k, L = k + 4 := ⟨L - 4, by omega⟩
    have e : nI (k + 4) - 4 = nI k := by
      rw [← nI_add k 4]
      exact Int32.add_sub_cancel (nI k) (nI 4)
    rw [e, nI_ltI (by omega) (by omega)]
    omega
set_option maxHeartbeats 4000000 in
set_option maxRecDepth 100000 in
theorem law_loop {p : Program} {l : Launch} {e : Env} {s : State} {m : MethodId} {below : List Frame} {meth : Method} {c : Code} {b L : Nat} {xs : Nat → Int32} {G : va_G} {ad am : Nat → Nat} {C V : Nat} {cI cZ : ClassId} {ao : Nat} {cL : ClassId} (hB : lwB p s m c b L xs G ad am C V cI cZ ao cL) (hlt : l.stackTraces = false) (hr : meth.sig.returnType = ret) (hlocks : meth.locks = false) :
    ∀ (n j : Nat), j ≤ 512 → j + n = 513 → ∀ (H : Heap) (locs : List Loc) (ls : Array Slot), lwS s b G ad am C V cI cZ ao cL (3 + 4 * j) H locs ls → W p l e room_1 s m #[Value.ref b] below meth c H locs (28 + j) (1830 + 6 * j) (lw_Z below #[Value.ref b] s) (F0 m 53 ls []) := by
  intro n
  induction n with
  | zero => intro j h1 h2; omega
  | succ n ih =>
    intro j hj hjn H locs ls hst
    obtain ⟨⟨hx, hb, hml, hown, hts⟩, hX, hbl, hL, hK, hXI, hDD⟩ := id hB
    obtain ⟨u, v, f, hsim, hPc, hPm, hPo, hS, hl⟩ := id hst
    have hA : ∀ q : Nat, s.heap.size ≤ q → (fun q : Nat => s.heap.size ≤ q) q := fun _ h => h
    have hbA : ¬ (fun q : Nat => s.heap.size ≤ q) b := Nat.not_le.mpr hbl
    refine lv_iload hx hb dL_law_53 (lv_at hl 0 rfl) ?_
    refine lv_aload_n hx hb dL_law_55 rfl (lv_at hl 1 rfl) ?_
    refine va_slen hx hb hX hbl hbA hS dL_law_56 ?_
    refine lv_iconst (v := 4) hx hb dL_law_57 (by decide) ?_
    refine lv_isub hx hb dL_law_58 ?_
    have h4 := sub4 (L := L) (i := 3 + 4 * j) hL (by omega)
    refine lv_icmp_gt (tgt := 828) hx hb dL_law_59 (by decide) (fun c1 => ?_) (fun c1 => ?_)
    · refine lv_iconst (v := 1) hx hb dL_law_828 (by decide) ?_
      refine va_forget (fun q hq => hS.2.2 q hq) ?_
      refine W.widen (k := 601024) (n := 7293000) (by omega) (by omega) ?_
      exact lw_ret hx hb hr hlocks dL_law_829
    · have hi : 3 + 4 * j + 3 < L := by
        rcases Nat.lt_or_ge L (3 + 4 * j + 4) with q | q
        · exact absurd (h4.mpr q) c1
        · omega
      have hk : ∀ (H : Heap) (locs : List Loc) (ls : Array Slot), lwS s b G ad am C V cI cZ ao cL (3 + 4 * j) H locs ls → W p l e room_1 s m #[Value.ref b] below meth c H locs (28 + j + 1) (1830 + 6 * j + 6) (lw_Z below #[Value.ref b] s) (F0 m 822 ls []) := by
        intro H locs ls hst
        obtain ⟨u, v, f, hsim, hPc, hPm, hPo, hS, hl⟩ := hst
        refine lv_iinc (v := nI (3 + 4 * (j + 1))) (lv' := [(4, .int (nI (3 + 4 * (j + 1)))), (0, .ref b), (1, .ref (ad 0)), (2, .ref (am 0)), (3, .ref ao)]) hx hb dL_law_822 hl (k := 0) rfl (nI_add (3 + 4 * j) 4) (by decide) rfl (fun ls hl => ?_)
        refine lv_goto (tgt := 53) hx hb dL_law_825 (by decide) ?_
        exact ih (j + 1) (by omega) (by omega) H locs ls ⟨u, v, f, hsim, hPc, hPm, hPo, hS, hl⟩
      refine lv_aload_n hx hb dL_law_62 rfl (lv_at hl 1 rfl) ?_
      refine lv_iload hx hb dL_law_63 (lv_at hl 0 rfl) ?_
      refine va_sld hx hb hX hbl hbA hS (vp_in_nI (by omega) (by omega)) dL_law_65 ?_
      refine lv_bipush (v := 31) hx hb dL_law_66 (by decide) ?_
      refine lv_iand hx hb dL_law_68 ?_
      refine lv_topi (fun x ex => ?_)
      have hc : 28 + j + 1 ≤ 601024 := by omega
      have hs : 1830 + 6 * j + 6 ≤ 7293000 := by omega
      by_cases ho : x.toInt < 0 ∨ 16 < x.toInt
      · refine lv_tableOut (tgt := 822) hx hb dL_law_69 ho (by decide) ?_
        refine W.widen (k := 28 + j + 1) (n := 1830 + 6 * j + 6) (by omega) (by omega) ?_
        exact hk H locs ls hst
      · have h1 : ¬ x.toInt < 0 := fun h => ho (Or.inl h)
        have h2 : ¬ 16 < x.toInt := fun h => ho (Or.inr h)
        rcases (show x.toInt = 0 ∨ x.toInt = 1 ∨ x.toInt = 2 ∨ x.toInt = 3 ∨ x.toInt = 4 ∨ x.toInt = 5 ∨ x.toInt = 6 ∨ x.toInt = 7 ∨ x.toInt = 8 ∨ x.toInt = 9 ∨ x.toInt = 10 ∨ x.toInt = 11 ∨ x.toInt = 12 ∨ x.toInt = 13 ∨ x.toInt = 14 ∨ x.toInt = 15 ∨ x.toInt = 16 by omega) with h | h | h | h | h | h | h | h | h | h | h | h | h | h | h | h | h
        · exact lv_tableIn (off := 83) (tgt := 152) hx hb dL_law_69 h1 h2 (by rw [h]; rfl) (by decide) (case_put hB hlt hi hc hs hst hk)
        · exact lv_tableIn (off := 132) (tgt := 201) hx hb dL_law_69 h1 h2 (by rw [h]; rfl) (by decide) (case_remove hB hlt hi hc hs hst hk)
        · exact lv_tableIn (off := 169) (tgt := 238) hx hb dL_law_69 h1 h2 (by rw [h]; rfl) (by decide) (case_below hB hlt hi hc hs hst hk)
        · exact lv_tableIn (off := 206) (tgt := 275) hx hb dL_law_69 h1 h2 (by rw [h]; rfl) (by decide) (case_join hB hlt hi hc hs hst hk)
        · exact lv_tableIn (off := 243) (tgt := 312) hx hb dL_law_69 h1 h2 (by rw [h]; rfl) (by decide) (case_drop hB hlt hi hc hs hst hk)
        · exact lv_tableIn (off := 268) (tgt := 337) hx hb dL_law_69 h1 h2 (by rw [h]; rfl) (by decide) (case_isLive hB hlt hi hc hs hst hk)
        · exact lv_tableIn (off := 293) (tgt := 362) hx hb dL_law_69 h1 h2 (by rw [h]; rfl) (by decide) (case_get hB hlt hi hc hs hst hk)
        · exact lv_tableIn (off := 361) (tgt := 430) hx hb dL_law_69 h1 h2 (by rw [h]; rfl) (by decide) (case_contains hB hlt hi hc hs hst hk)
        · exact lv_tableIn (off := 398) (tgt := 467) hx hb dL_law_69 h1 h2 (by rw [h]; rfl) (by decide) (case_size hB hlt hi hc hs hst hk)
        · exact lv_tableIn (off := 423) (tgt := 492) hx hb dL_law_69 h1 h2 (by rw [h]; rfl) (by decide) (case_floor hB hlt hi hc hs hst hk)
        · exact lv_tableIn (off := 491) (tgt := 560) hx hb dL_law_69 h1 h2 (by rw [h]; rfl) (by decide) (case_keyAt hB hlt hi hc hs hst hk)
        · exact lv_tableIn (off := 559) (tgt := 628) hx hb dL_law_69 h1 h2 (by rw [h]; rfl) (by decide) (case_sum hB hlt hi hc hs hst hk)
        · exact lv_tableIn (off := 609) (tgt := 678) hx hb dL_law_69 h1 h2 (by rw [h]; rfl) (by decide) (case_depth hB hlt hi hc hs hst hk)
        · exact lv_tableIn (off := 677) (tgt := 746) hx hb dL_law_69 h1 h2 (by rw [h]; rfl) (by decide) (case_shared hB hlt hi hc hs hst hk)
        · exact lv_tableIn (off := 714) (tgt := 783) hx hb dL_law_69 h1 h2 (by rw [h]; rfl) (by decide) (case_nodes hB hlt hi hc hs hst hk)
        · exact lv_tableIn (off := 727) (tgt := 796) hx hb dL_law_69 h1 h2 (by rw [h]; rfl) (by decide) (case_used hB hlt hi hc hs hst hk)
        · exact lv_tableIn (off := 740) (tgt := 809) hx hb dL_law_69 h1 h2 (by rw [h]; rfl) (by decide) (case_sweeps hB hlt hi hc hs hst hk)
end LawLoop
