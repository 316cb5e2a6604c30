/-! the reference's remove, below, join -/
theorem HB_sam {s s' : CS} {g : LG} {rl : Nat → Nat} {k : Int32} {nx : Nat} {l : List (Nat × Nat)} {v : Int32} {J : List Nat} (h : HB s g rl k nx l v) (hs : sam J s s') (hJ : ∀ j ∈ J, j < 6 ∨ (12 ≤ j ∧ j ≤ 16) ∨ 22 ≤ j) : HB s' g rl k nx l v := by
  have e : ∀ j, ¬ (j < 6 ∨ (12 ≤ j ∧ j ≤ 16) ∨ 22 ≤ j) → s' j = s j := fun j hj => hs j (fun q => hj (hJ j q))
  refine HB_eqx (x := 1000) h (fun c c1 c2 r hr => by rw [e c (by omega)]) (fun q hq e => ?_) (e 11 (by omega)) (e 19 (by omega)) (e 20 (by omega)) (e 21 (by omega)) (Nat.le_refl _)
  have := (h.2.2.2.2 q hq).2.1; omega
theorem BS_base {s0 s s' : CS} {g : LG} {rl : Nat → Nat} {S : Nat → Prop} {k : Int32} {l : List (Nat × Nat)} {v : Int32} {fr : Nat} {J : List Nat} (h : BS s0 s g rl S k l v fr) (hs : sam J s s') (hJ : ∀ j ∈ J, j < 6 ∨ (12 ≤ j ∧ j ≤ 16) ∨ 22 ≤ j) : BS s' s' g rl S k l v fr := by
  obtain ⟨h1, h2, ⟨nx, h3, h4, h5⟩, -, h6⟩ := h
  have e : ∀ j, ¬ (j < 6 ∨ (12 ≤ j ∧ j ≤ 16) ∨ 22 ≤ j) → s' j = s j := fun j hj => hs j (fun q => hj (hJ j q))
  refine ⟨h1.sam hs (fun j hj => by have := hJ j hj; omega), fun i hi => by rw [e 11 (by omega)]; exact h2 i hi, ⟨nx, h3, ?_, HB_sam h5 hs hJ⟩, sam.rf, h6⟩
  unfold WS; rw [e 11 (by omega), e 17 (by omega), e 18 (by omega)]; exact h4
theorem holeAt2_spec {s : CS} {g : LG} {rl : Nat → Nat} {k : Int32} {nx : Nat} {l : List (Nat × Nat)} {a x : Nat} (hb : HB s g rl k nx l (nI x)) {v2 : Int32} (hk : rowK s g rl k a x) (ho : onC s g k a x v2) (hx : x < nx) (hx2 : x < 160) (h11 : s 11 x = 0) (hd : ∀ q ∈ l, q.2 ≠ x) {b : Int32} (hbs : b = bI (decide (gK g a < k))) {post : CS → Prop}
    (hp : ∀ s', HB s' g rl k nx (l ++ [(a, x)]) v2 → sam [20, 21] s s' → post s') : wp_X3_holeAt (nI x) b s post := by
  obtain ⟨a1, a2, a3, a4, a5⟩ := hb
  obtain ⟨c1, c2, c3, c4⟩ := hk
  unfold wp_X3_holeAt
  refine stF.mk ⟨by rw [hbs]; exact bI_B _, stF.mk (hp _ ⟨?_, ?_, ?_, ?_, fun q hq => ?_⟩ ((sam.cs (by decide)).tr (sam.cs (by decide))))⟩
  · have he : eqx s (cset (cset s 20 (fun _ => nI x)) 21 (fun _ => b)) 1000 := by
      intro c c1 c2 r hr
      rw [cset_ne _ _ (by omega), cset_ne _ _ (by omega)]
    have e : ∀ c, c ≠ 20 → c ≠ 21 → cset (cset s 20 (fun _ => nI x)) 21 (fun _ => b) c = s c := fun c q1 q2 => by rw [cset_ne _ _ q2, cset_ne _ _ q1]
    refine CH_snoc (CH_eqx he (fun q hq => by have := (a5 q hq).2.1; omega) a1) ⟨?_, ?_, ?_, ?_⟩ ?_
    · rw [e 6 (by decide) (by decide)]; exact c1
    · rw [e 7 (by decide) (by decide)]; exact c2
    · rw [e 8 (by decide) (by decide)]; exact c3
    · rw [e 9 (by decide) (by decide), e 10 (by decide) (by decide)]; exact c4
    · unfold onC at ho ⊢
      rw [e 9 (by decide) (by decide), e 10 (by decide) (by decide)]; exact ho
  · rw [cset_ne _ _ (by decide), cset_ne _ _ (by decide), a2, hdv_snoc]
  · rw [List.getLast?_concat]
    dsimp only
    rw [cset_eq, cset_ne _ _ (by decide), cset_eq]
    exact ⟨rfl, hbs⟩
  · rw [List.map_append, List.nodup_append]
    refine ⟨a4, by simp, fun p hp q hq e => ?_⟩
    obtain ⟨z, z1, z2⟩ := List.mem_map.mp hp
    simp at hq
    exact hd z z1 (by rw [z2, e, hq])
  · rw [cset_ne _ _ (by decide), cset_ne _ _ (by decide)]
    rcases List.mem_append.mp hq with q1 | q1
    · exact a5 q q1
    · simp at q1; rw [q1]; exact ⟨hx, hx2, h11⟩
theorem take_snoc {l : List Nat} {j : Nat} (h : j < l.length) : l.take (j + 1) = l.take j ++ [l.getD j 0] := by
  rw [List.take_succ, List.getD_eq_getElem?_getD, List.getElem?_eq_getElem h]; rfl
section OpsM2
variable {C V n : Nat} {s : CS} {g : LG} {rl : Nat → Nat} {lv : Nat → Bool} {rt : Nat → Nat} {sd sw : Int32} {us : Nat}
theorem mI_ge {i : Nat} {S : Nat → Prop} (hr : repM s g rl S) (hi : i = 0 ∨ S i) : 0 ≤ mI rl i ↔ i ≠ 0 := by
  have := hr.neg hi
  rw [← i32_nlt]
  constructor
  · intro h e; exact h (this.mpr e)
  · intro h e; exact h (this.mp e)
theorem removeM_spec (H : MR C V s g n rl lv rt sd us sw) {h : Nat} (h1 : h < V) (h2 : lv h = true) {k : Int32} {post : Int32 → CS → Prop}
    (hp : ∀ rl2 s2, (lvA V (aup C V g n lv rt sd us sw (rmvL g k (rt h)).length (cpo k (rmvL g k (rt h)).reverse g n (rmvT g k (rt h))).1 (n + (rmvL g k (rt h)).length) (cpo k (rmvL g k (rt h)).reverse g n (rmvT g k (rt h))).2 sd).2 ≤ C → MRa C V s2 rl2 (aup C V g n lv rt sd us sw (rmvL g k (rt h)).length (cpo k (rmvL g k (rt h)).reverse g n (rmvT g k (rt h))).1 (n + (rmvL g k (rt h)).length) (cpo k (rmvL g k (rt h)).reverse g n (rmvT g k (rt h))).2 sd).2) → post (aup C V g n lv rt sd us sw (rmvL g k (rt h)).length (cpo k (rmvL g k (rt h)).reverse g n (rmvT g k (rt h))).1 (n + (rmvL g k (rt h)).length) (cpo k (rmvL g k (rt h)).reverse g n (rmvT g k (rt h))).2 sd).1 s2) : wp_X3_remove (nI h) k s post := by
  have hsz := H.size h1 h2
  unfold wp_X3_remove
  refine stF.mk ?_
  have H1 := MR_sam H (sam.cs (J := [0]) (i := 0) (f := fun _ => 0) (by decide)) (by decide)
  generalize cset s 0 (fun _ => 0) = s1 at H1 ⊢
  refine has_spec H1 (fun _ _ _ _ => brN.mf (by decide) ?_) (fun q => absurd ⟨h, h1, rfl, h2⟩ q)
  refine freeHandle_spec H1 (fun e => ?_) (fun h' e hh => ?_)
  · have e0 : ∀ (m : Nat) (g' : LG) (n' t : Nat) (sd' : Int32), aup C V g n lv rt sd us sw m g' n' t sd' = (-2, (g, n, lv, rt, sd, us, sw)) := by intro m g' n' t sd'; unfold aup; rw [e]
    rw [e0] at hp
    exact brN.mf (by decide) (hp rl s1 (fun _ => H1))
  · obtain ⟨⟨hC, hV⟩, hw, hrt, hr, hlv, hro, e1, e2, e3, e4, e5, hus, hlc⟩ := id H1
    have hin := hrt h h1 h2
    have hil := liv_rt hw hrt h1 h2
    refine brN.mt (nI_pos' (by omega)) (begin_spec H1 (fun s2 H2 hB2 hs2 => ?_))
    obtain ⟨-, -, -, hr2, -, hro2, -⟩ := id H2
    refine rdA.mk h rfl (by omega) (by omega) ?_
    rw [hro2 h h1 h2]
    refine findM_spec hr2 hw hil hin ?_
    have hfl : fnd g k (rt h) = 0 ∨ liv g lv rt V (fnd g k (rt h)) := by
      by_cases e : fnd g k (rt h) = 0
      · exact Or.inl e
      · exact Or.inr ⟨h, h1, h2, (fnd_mem hw k _ hin e).1⟩
    refine brN.mk (fun c => ?_) (fun c => ?_)
    · have ex : fnd g k (rt h) ≠ 0 := (mI_ge hr2 hfl).mp c
      have hSx := hfl.resolve_left ex
      have hxm := fnd_mem hw k _ hin ex
      have hx0 := nd_le hxm.1
      refine rdA.mk h rfl (by omega) (by omega) ?_
      rw [hro2 h h1 h2]
      refine goM_spec (e := true) hr2 hw hil hin (by omega) (fun s3 hs3 hy3 => ?_)
      have H3 := MR_sam H2 hs3 (by decide)
      have hB3 := BS_base (hB2 k) hs3 (by decide)
      rw [goL_t hw k _ hin ex] at hy3
      have hwl := way_len hw k _ hin
      obtain ⟨k1, k2, k3, k4⟩ := jnt_fnd hw k hin ex
      have hxlen := nd_len hw hx0.1 (by omega : fnd g k (rt h) ≤ n)
      have elL : rmvL g k (rt h) = way g k (rt h) ++ jnt g (gL g (fnd g k (rt h))) (gR g (fnd g k (rt h))) := by simp [rmvL, ex]
      have elT : rmvT g k (rt h) = jrs g (gL g (fnd g k (rt h))) (gR g (fnd g k (rt h))) := by simp [rmvT, ex]
      have hrw := rmv_wf hw k hin
      have hj := jnt_all hw k _ _ _ (Nat.lt_succ_self _) k3 k4 k1 k2
      have htS : rmvT g k (rt h) = 0 ∨ liv g lv rt V (rmvT g k (rt h)) := by
        rw [elT]
        by_cases e2 : jrs g (gL g (fnd g k (rt h))) (gR g (fnd g k (rt h))) = 0
        · exact Or.inl e2
        · refine Or.inr ⟨h, h1, h2, nd_sub hw hin hxm.1 _ ?_⟩
          rw [nd_eq hw hx0.1 (by omega)]
          rcases hj.2.2.2.1 _ (nd_self hw (by omega) hj.2.2.1) with z | z
          · exact List.mem_append_left _ z
          · exact List.mem_append_right _ (List.mem_cons_of_mem _ z)
      have lp : ∀ (f j : Nat) (l : List (Nat × Nat)) (v : Int32) (s4 : CS), j ≤ (way g k (rt h)).length → (way g k (rt h)).length < j + f → BS s3 s4 g rl (liv g lv rt V) k l v j → l.map Prod.fst = (way g k (rt h)).take j → lp_X3_remove_80 post f k (nI h') (mI rl (fnd g k (rt h))) (nI j) s4 := by
        intro f
        induction f with
        | zero => intro j l v s4 a b; omega
        | succ f ih =>
          intro j l v s4 hj1 hj2 hB4 hlm
          obtain ⟨hr4, -, -, hs4, -⟩ := id hB4
          have hy4 := hy3.sam hs4 (by decide) (by decide)
          unfold lp_X3_remove_80
          refine nmI.mk (nmI.mk ?_)
          rw [hy4.1, List.length_append, List.length_singleton, nI_pred]
          refine brN.mk (fun c4 => ?_) (fun c4 => ?_)
          · have e4 : (way g k (rt h)).length ≤ j := (nI_leI (by omega) (by omega)).mp c4
            have e4 : j = (way g k (rt h)).length := by omega
            rw [e4, List.take_length] at hlm
            obtain ⟨-, ⟨x0, -, -, -, x4, x5⟩, -⟩ := hr4.1 _ hSx
            rw [mI_s rl ex]
            refine rdA.mk (rl (fnd g k (rt h))) rfl x0 (by omega) ?_
            refine rdA.mk (rl (fnd g k (rt h))) rfl x0 (by omega) ?_
            rw [x4, x5]
            unfold wp_X3_joint
            have kid := repM_kid hr4 hSx
            refine ⟨_, jointM hw k _ _ _ l v s4 j (Nat.lt_succ_self _) kid.1 k3 kid.2 k4 k1 k2 (by omega) hB4 (fun s5 l' z1 z2 => ?_)⟩
            rw [hlm, ← elL] at z2
            rw [← elT] at z1
            have hll : l'.length = (rmvL g k (rt h)).length := by rw [← z2, List.length_map]
            have z1' : BS s3 s5 g rl (liv g lv rt V) k l' (mI rl (rmvT g k (rt h))) l'.length := by
              rw [hll, elL, List.length_append, ← e4]; exact z1
            refine settleB H3 e hh z1' htS ?_ ?_ ?_
            · rw [hll, elL, List.length_append]; have := hj.2.2.2.2.2.2; omega
            · rw [z2, hll]; exact hrw
            · rw [z2, hll]; exact hp
          · have e4 : j < (way g k (rt h)).length := by
              rcases Nat.lt_or_ge j (way g k (rt h)).length with q | q
              · exact q
              · exact absurd (nI_le q (by omega)) c4
            have hm := getD_mem e4
            have hSa : liv g lv rt V ((way g k (rt h)).getD j 0) := ⟨h, h1, h2, (way_mem hw k _ hin _ hm).1⟩
            refine rdA.mk j rfl (by omega) (by omega) ?_
            rw [hy4.2 j (by simp; omega), getD_app_lt _ _ e4]
            refine stepB hB4 (by omega) hSa (fun x s5 hX => holeB' hX (fun s6 hB6 => nmI.mk ?_))
            rw [nI_1]
            exact ih (j + 1) _ _ s6 (by omega) (by omega) hB6 (by rw [List.map_append, hlm, take_snoc e4]; rfl)
      exact ⟨_, lp ((way g k (rt h)).length + 1) 0 [] (-1) s3 (by omega) (by omega) hB3 rfl⟩
    · have ex : fnd g k (rt h) = 0 := Decidable.byContradiction (fun q => c ((mI_ge hr2 hfl).mpr q))
      have elL : rmvL g k (rt h) = [] := by simp [rmvL, ex]
      have elT : rmvT g k (rt h) = rt h := by simp [rmvT, ex]
      refine rdA.mk h rfl (by omega) (by omega) ?_
      rw [hro2 h h1 h2]
      refine stF.mk ?_
      obtain ⟨-, -, ⟨nx, b1, b2, b3⟩, -, -⟩ := hB2 k
      have hs3 : sam [19] s2 (cset s2 19 (fun _ => mI rl (rt h))) := sam.cs (by decide)
      have H3 := MR_sam H2 hs3 (by decide)
      have h19 : cset s2 19 (fun _ => mI rl (rt h)) 19 0 = mI rl (rt h) := by rw [cset_eq]
      have h17 : cset s2 19 (fun _ => mI rl (rt h)) 17 0 = nI 0 := by rw [cset_ne _ _ (by decide)]; exact b2.1
      rw [elL, elT] at hp
      obtain ⟨-, -, -, hr3, -⟩ := id H3
      refine settle_spec H3 e hh (m := 0) (by omega) h17 (n' := n) (by rw [Sup_rf]; exact hr3) h19 hw (agr.rf g n) (Nat.le_refl _) hin (by rw [Sup_rf]; exact hil) (plx.rf _ _) hp
theorem belowM_spec (H : MR C V s g n rl lv rt sd us sw) {h : Nat} (h1 : h < V) (h2 : lv h = true) {k : Int32} {post : Int32 → CS → Prop}
    (hp : ∀ rl2 s2, (lvA V (aup C V g n lv rt sd us sw (lsr g k (rt h)).length (cpo k (lsr g k (rt h)).reverse g n 0).1 (n + (lsr g k (rt h)).length) (cpo k (lsr g k (rt h)).reverse g n 0).2 sd).2 ≤ C → MRa C V s2 rl2 (aup C V g n lv rt sd us sw (lsr g k (rt h)).length (cpo k (lsr g k (rt h)).reverse g n 0).1 (n + (lsr g k (rt h)).length) (cpo k (lsr g k (rt h)).reverse g n 0).2 sd).2) → post (aup C V g n lv rt sd us sw (lsr g k (rt h)).length (cpo k (lsr g k (rt h)).reverse g n 0).1 (n + (lsr g k (rt h)).length) (cpo k (lsr g k (rt h)).reverse g n 0).2 sd).1 s2) : wp_X3_below (nI h) k s post := by
  have hsz := H.size h1 h2
  unfold wp_X3_below
  refine stF.mk ?_
  have H1 := MR_sam H (sam.cs (J := [0]) (i := 0) (f := fun _ => 0) (by decide)) (by decide)
  generalize cset s 0 (fun _ => 0) = s1 at H1 ⊢
  refine has_spec H1 (fun _ _ _ _ => brN.mf (by decide) ?_) (fun q => absurd ⟨h, h1, rfl, h2⟩ q)
  refine freeHandle_spec H1 (fun e => ?_) (fun h' e hh => ?_)
  · have e0 : ∀ (m : Nat) (g' : LG) (n' t : Nat) (sd' : Int32), aup C V g n lv rt sd us sw m g' n' t sd' = (-2, (g, n, lv, rt, sd, us, sw)) := by intro m g' n' t sd'; unfold aup; rw [e]
    rw [e0] at hp
    exact brN.mf (by decide) (hp rl s1 (fun _ => H1))
  · obtain ⟨⟨hC, hV⟩, hw, hrt, hr, hlv, hro, e1, e2, e3, e4, e5, hus, hlc⟩ := id H1
    have hin := hrt h h1 h2
    have hil := liv_rt hw hrt h1 h2
    refine brN.mt (nI_pos' (by omega)) (begin_spec H1 (fun s2 H2 hB2 hs2 => ?_))
    obtain ⟨-, -, -, hr2, -, hro2, -⟩ := id H2
    refine rdA.mk h rfl (by omega) (by omega) ?_
    rw [hro2 h h1 h2]
    refine goM_spec (e := false) hr2 hw hil hin (by omega) (fun s3 hs3 hy3 => ?_)
    have H3 := MR_sam H2 hs3 (by decide)
    have hB3 := BS_base (hB2 k) hs3 (by decide)
    have hgl := goL_len hw k false _ hin
    have hll := lsr_len hw k _ hin
    have lp : ∀ (f j : Nat) (l : List (Nat × Nat)) (s4 : CS), j ≤ (goL g k false (rt h)).length → (goL g k false (rt h)).length < j + f → BS s3 s4 g rl (liv g lv rt V) k l (-1) l.length → l.length ≤ j → l.map Prod.fst = ((goL g k false (rt h)).take j).filter (fun a => decide (gK g a < k)) → lp_X3_below_46 post f k (nI h') (nI j) s4 := by
      intro f
      induction f with
      | zero => intro j l s4 a b; omega
      | succ f ih =>
        intro j l s4 hj1 hj2 hB4 hlj hlm
        obtain ⟨hr4, hL4, ⟨nx, hnx, hW4, hb4⟩, hs4, hl4⟩ := id hB4
        have hy4 := hy3.sam hs4 (by decide) (by decide)
        unfold lp_X3_below_46
        refine nmI.mk ?_
        rw [hy4.1]
        refine brN.mk (fun c4 => ?_) (fun c4 => ?_)
        · have e4 : (goL g k false (rt h)).length ≤ j := (nI_leI (by omega) (by omega)).mp c4
          have e4 : j = (goL g k false (rt h)).length := by omega
          rw [e4, List.take_length, goL_l hw k _ hin] at hlm
          have hll' : l.length = (lsr g k (rt h)).length := by rw [← hlm, List.length_map]
          have hB4' : BS s3 s4 g rl (liv g lv rt V) k l (mI rl 0) l.length := by rw [mI_0]; exact hB4
          refine settleB H3 e hh hB4' (Or.inl rfl) (by omega) ?_ ?_
          · rw [hlm, hll']; exact lsr_wf hw k hin
          · rw [hlm, hll']; exact hp
        · have e4 : j < (goL g k false (rt h)).length := by
            rcases Nat.lt_or_ge j (goL g k false (rt h)).length with q | q
            · exact q
            · exact absurd (nI_le q (by omega)) c4
          have hm := getD_mem e4
          have hSa : liv g lv rt V ((goL g k false (rt h)).getD j 0) := ⟨h, h1, h2, goL_mem hw k false _ hin _ hm⟩
          have htk := take_snoc e4
          generalize (goL g k false (rt h)).getD j 0 = a at hSa htk hm
          have hya : s4 23 j = nI (rl a) := by
            rw [hy4.2 j e4]
            congr 2
            have := congrArg (fun l => l.getD j 0) htk
            have e5 : ((goL g k false (rt h)).take j).length = j := by rw [List.length_take]; omega
            have e6 : ((goL g k false (rt h)).take j ++ [a]).getD j 0 = a := by
              rw [List.getD_eq_getElem?_getD, List.getElem?_append_right (by omega), e5]; simp
            rw [← e6, ← htk]
            rw [List.getD_eq_getElem?_getD, List.getD_eq_getElem?_getD, List.getElem?_take_of_lt (by omega)]
          obtain ⟨a0, ⟨x0, x1, -⟩, -⟩ := hr4.1 a hSa
          refine rdA.mk j rfl (by omega) (by omega) ?_
          rw [hya]
          refine rdA.mk (rl a) rfl x0 (by omega) ?_
          rw [x1]
          refine brN.mk (fun c5 => ?_) (fun c5 => ?_)
          · refine nmI.mk ?_
            rw [nI_1]
            refine ih (j + 1) l s4 (by omega) (by omega) hB4 (by omega) ?_
            rw [hlm, htk, List.filter_append, List.filter_cons_of_neg (by simp [i32_nlt.mpr c5])]; simp
          · have c5' := i32_nle.mp c5
            refine rdA.mk j rfl (by omega) (by omega) ?_
            rw [hya]
            refine copyM_spec hr4 hW4 (by omega) hnx hL4 hSa hb4 (fun x s5 y1 y2 y3 y4 y5 y6 y7 y8 y9 => ?_)
            have hL5 : lvM s5 rl (liv g lv rt V) := fun i hi => by rw [y8.at 11]; exact hL4 i hi
            have hd : ∀ q ∈ l, q.2 ≠ x := fun q hq e => by have := (hb4.2.2.2.2 q hq).1; omega
            refine wrA.mk x rfl (by omega) (by omega) ?_
            have e0 : ∀ c, c ≠ 10 → cset s5 10 (upd (s5 10) x (-1)) c = s5 c := fun c hc => cset_ne _ _ hc
            have he6 : eqx s5 (cset s5 10 (upd (s5 10) x (-1))) x := by
              intro c c1 c2 r hr
              by_cases e : c = 10
              · subst e; rw [cset_eq, upd_ap, if_neg hr]
              · rw [e0 c e]
            have h10 : cset s5 10 (upd (s5 10) x (-1)) 10 x = -1 := by rw [cset_eq, upd_ap, if_pos rfl]
            have hs6 : sam [10] s5 (cset s5 10 (upd (s5 10) x (-1))) := sam.cs (by decide)
            generalize cset s5 10 (upd (s5 10) x (-1)) = s6 at e0 he6 h10 hs6 ⊢
            have hx : ∀ i, liv g lv rt V i → rl i ≠ x := fun i hi e => by have := hL4 i hi; rw [e, y3] at this; exact absurd this (by decide)
            have hr6 := repM_eqx y5 he6 hx
            have hb6 := HB_eqx y6 he6 hd (e0 11 (by decide)) (e0 19 (by decide)) (e0 20 (by decide)) (e0 21 (by decide)) (Nat.le_refl _)
            have hL6 : lvM s6 rl (liv g lv rt V) := fun i hi => by rw [e0 11 (by decide)]; exact hL5 i hi
            have hW6 := y4.sam hs6 (by decide) (by decide) (by decide)
            refine hangB (a := a) (x := x) (u2 := 0) hr6 hL6 hW6 hb6 (fun s7 z1 z2 z3 z4 z5 z6 => ?_)
            obtain ⟨c1, c2, c3, c4', c5''⟩ := y7
            refine holeAt2_spec z4 (v2 := -1) ⟨by rw [z5.at 6, e0 6 (by decide)]; exact c1, by rw [z5.at 7, e0 7 (by decide)]; exact c2, by rw [z5.at 8, e0 8 (by decide)]; exact c3, ?_⟩ ?_ (by omega) (by omega) (by rw [z5.at 11, e0 11 (by decide), y8.at 11]; exact y3) hd (by simp [c5', bI]) (fun s8 v1 v2 => nmI.mk ?_)
            · rw [if_pos c5', z6 9 (by decide) (by decide) x hd, e0 9 (by decide)]; exact c4'
            · unfold onC; rw [if_pos c5', z6 10 (by decide) (by decide) x hd]; exact h10
            · rw [nI_1]
              have hlen2 : (l ++ [(a, x)]).length = l.length + 1 := by simp
              refine ih (j + 1) (l ++ [(a, x)]) s8 (by omega) (by omega) ⟨z1.sam v2 (by decide), fun i hi => by rw [v2.at 11]; exact z2 i hi, ⟨x + 1, by omega, by rw [hlen2]; exact z3.sam v2 (by decide) (by decide) (by decide), v1⟩, hs4.tr ((y8.up (by decide)).tr ((hs6.up (by decide)).tr ((z5.up (by decide)).tr (v2.up (by decide))))), fun q hq => ?_⟩ (by omega) ?_
              · rcases List.mem_append.mp hq with w | w
                · exact hl4 q w
                · simp at w; rw [w]; exact hSa
              · rw [List.map_append, hlm, htk, List.filter_append, List.filter_cons_of_pos (by simp [c5'])]; rfl
    exact ⟨_, lp ((goL g k false (rt h)).length + 1) 0 [] s3 (by omega) (by omega) hB3 (by simp) rfl⟩
end OpsM2
