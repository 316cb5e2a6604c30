/-! the reference's putNew and put -/
theorem CH_fr {s s' : CS} {g : LG} {rl : Nat → Nat} {k : Int32} {v : Int32} : ∀ {l : List (Nat × Nat)}, (∀ q ∈ l, ∀ c, 6 ≤ c → c ≤ 10 → s' c q.2 = s c q.2) → CH s g rl k l v → CH s' g rl k l v
  | [], _, _ => trivial
  | q :: l, hx, h => by
    obtain ⟨⟨b1, b2, b3, b4⟩, a2, a3⟩ := h
    have he := hx q List.mem_cons_self
    refine ⟨⟨?_, ?_, ?_, ?_⟩, ?_, CH_fr (fun p hp => hx p (List.mem_cons_of_mem _ hp)) a3⟩
    · rw [he 6 (by decide) (by decide)]; exact b1
    · rw [he 7 (by decide) (by decide)]; exact b2
    · rw [he 8 (by decide) (by decide)]; exact b3
    · rw [he 9 (by decide) (by decide), he 10 (by decide) (by decide)]; exact b4
    · unfold onC at a2 ⊢; rw [he 9 (by decide) (by decide), he 10 (by decide) (by decide)]; exact a2
theorem pln_stop (k w : Int32) {rs : List Nat} {g : LG} {n a b : Nat} (h : ∀ i, rs.head? = some i → abv (gW g i) (gK g i) w k = true) : pln k w rs g n a b = (g, n, a, b, rs) := by
  cases rs with
  | nil => rfl
  | cons i rs => rw [pln, if_pos (h i rfl)]
section PutM3
variable {C V n : Nat} {s : CS} {g : LG} {rl : Nat → Nat} {lv : Nat → Bool} {rt : Nat → Nat} {sd sw : Int32} {us : Nat}
theorem putNewM (H : MR C V s g n rl lv rt sd us sw) {h h' : Nat} (h1 : h < V) (h2 : lv h = true) (hh : h' < V) {k v : Int32} (hB : BS s s g rl (liv g lv rt V) k [] (-1) 0) (ex : fnd g k (rt h) = 0) (hy : wayM s rl (way g k (rt h))) {post : Int32 → CS → Prop}
    (hp : ∀ rl2 s2, (lvc (putB g n sd k v (rt h)).1 (upn lv h' true) (upn rt h' (putB g n sd k v (rt h)).2.2.1) V ≤ C → MR C V s2 (putB g n sd k v (rt h)).1 (putB g n sd k v (rt h)).2.1 rl2 (upn lv h' true) (upn rt h' (putB g n sd k v (rt h)).2.2.1) (putB g n sd k v (rt h)).2.2.2 us sw) → post (nI h') s2) :
    wp_X3_putNew k v s (fun u22 => wrZ u22 15 8 (nI h') 1 (fun u23 => nmI (u23 19 0) (fun z24 => wrA u23 16 8 (nI h') z24 (fun u25 => post (nI h') u25)))) := by
  have hsz := H.size h1 h2
  obtain ⟨⟨hC, hV⟩, hw, hrt, hr, hlv, hro, e1, e2, e3, e4, e5, hus, hlc⟩ := id H
  have hin := hrt h h1 h2
  have hwl := way_len hw k _ hin
  have hchk := (way_chk hw k _ hin).1
  have hway : ∀ a ∈ way g k (rt h), liv g lv rt V a ∧ (0 < a ∧ a ≤ n) := fun a ha => ⟨⟨h, h1, h2, (way_mem hw k _ hin a ha).1⟩, nd_pos hin (way_mem hw k _ hin a ha).1⟩
  unfold wp_X3_putNew
  refine nmI.mk (nmI.mk (nmI.mk (stF.mk (nmI.mk (nmI.mk (nmI.mk ?_))))))
  rw [cset_eq, e3, wgt_eq]
  have edr : sd * 1103515245 + 12345 = drw sd := rfl
  rw [edr]
  have hs1 : sam [3] s (cset s 3 (fun _ => drw sd)) := sam.cs (by decide)
  have H1 : MR C V (cset s 3 (fun _ => drw sd)) g n rl lv rt (drw sd) us sw := by
    refine ⟨⟨hC, hV⟩, hw, hrt, hr.sam hs1 (by decide), ?_, ?_, ?_, ?_, by rw [cset_eq], ?_, ?_, hus, hlc⟩
    · rw [hs1.at 15]; exact hlv
    · rw [hs1.at 16]; exact hro
    · rw [hs1.at 1]; exact e1
    · rw [hs1.at 2]; exact e2
    · rw [hs1.at 4]; exact e4
    · rw [hs1.at 5]; exact e5
  have hB1 := BS_base hB hs1 (by decide)
  have hy1 := hy.sam hs1 (by decide) (by decide)
  generalize cset s 3 (fun _ => drw sd) = s1 at H1 hB1 hy1 ⊢
  obtain ⟨hr1, hL1, ⟨nx1, hnx1, hW1, hb1⟩, -, -⟩ := hB1
  unfold putB at hp
  rw [if_pos ex] at hp
  dsimp only at hp
  refine make_spec hW1 (by omega) hnx1 (fun x0 s2 x1 x2 x3 x4 x5 => ?_)
  have hx0l : ∀ i, liv g lv rt V i → rl i ≠ x0 := fun i hi e => by have := hL1 i hi; rw [e, x3] at this; exact absurd this (by decide)
  have hr2 := repM_eqx hr1 x5.eqx hx0l
  have hs2 := x5.2.2.2.2.2
  have hb2 : HB s2 g rl k (x0 + 1) [] (-1) := HB_eqx hb1 x5.eqx (fun q hq => (by cases hq)) (hs2.at 11) (hs2.at 19) (hs2.at 20) (hs2.at 21) (by omega)
  obtain ⟨t6, t7, t8, t9, t10⟩ := x5.row
  -- the way is done up to j: what follows
  have FIN : ∀ (j : Nat) (l : List (Nat × Nat)) (vv : Int32) (s4 : CS) (nx : Nat), j ≤ (way g k (rt h)).length → repM s4 g rl (liv g lv rt V) → lvM s4 rl (liv g lv rt V) → WS s4 (j + 1) nx → nx ≤ 160 → x0 < nx → HB s4 g rl k nx l vv → l.map Prod.fst = (way g k (rt h)).take j → (∀ q ∈ l, q.2 ≠ x0) → (s4 6 x0 = k ∧ s4 7 x0 = v ∧ s4 8 x0 = wgt (drw sd) ∧ s4 9 x0 = -1 ∧ s4 10 x0 = -1) → s4 11 x0 = 0 → sam [6, 7, 8, 9, 10, 17, 18, 19, 20, 21] s1 s4 → (∀ a ∈ (way g k (rt h)).take j, abv (gW g a) (gK g a) (wgt (drw sd)) k = true) → (∀ b ∈ (way g k (rt h)).drop j, ¬ abv (gW g b) (gK g b) (wgt (drw sd)) k = true) →
      wp_X3_hang (nI x0) s4 (fun u38 => ∃ n, lp_X3_putNew_119 (fun u22 => wrZ u22 15 8 (nI h') 1 (fun u23 => nmI (u23 19 0) (fun z24 => wrA u23 16 8 (nI h') z24 (fun u25 => post (nI h') u25)))) n k (nI x0) (nI j) (-1) (-1) u38) := by
    intro j l vv s4 nx hj hr4 hL4 hW4 hnx hx0n hb4 hlm hlx ⟨q6, q7, q8, q9, q10⟩ q11 hs4 hab hnab
    refine hangB (a := 0) (x := 0) (u2 := 0) hr4 hL4 hW4 hb4 (fun s5 y1 y2 y3 y4 y5 y6 => ?_)
    have hl5 : ∀ q ∈ l, liv g lv rt V q.1 := by
      intro q hq
      have : q.1 ∈ (way g k (rt h)).take j := by rw [← hlm]; exact List.mem_map_of_mem hq
      exact (hway _ (List.mem_of_mem_take this)).1
    have hdl : ((way g k (rt h)).drop j).length = (way g k (rt h)).length - j := List.length_drop
    have hs5 : sam [6, 7, 8, 9, 10, 17, 18, 19, 20, 21] s1 s5 := hs4.tr (y5.up (by decide))
    have hlen : (way g k (rt h)).length ≤ 40 := by omega
    refine ⟨_, belowN (S := liv g lv rt V) (liv_n hrt) (x0 := x0) (ws := way g k (rt h)) ((way g k (rt h)).drop j) (((way g k (rt h)).drop j).length + 1) j (j + 1) nx (-1) (-1) 9 x0 10 x0 s5 (Nat.lt_succ_self _) (by omega) (fun i hi => ?_) (by omega) (hy1.sam hs5 (by decide) (by decide)) y1 y2 y3 hnx (by omega) (fun b hb => (hway b (List.mem_of_mem_drop hb)).1) hx0n hx0n hx0n (by rw [y5.at 11]; exact q11) (by rw [y5.at 11]; exact q11) (Or.inl ⟨rfl, rfl, rfl⟩) (Or.inl ⟨rfl, rfl, rfl⟩) (by simp) (by omega) (by omega) (by omega) (by rw [y6 9 (by decide) (by decide) x0 hlx]; exact q9) (by rw [y6 10 (by decide) (by decide) x0 hlx]; exact q10) (fun s6 rl' z1 z2 z3 z4 z5 z6 z7 => ?_)⟩
    · rw [List.getD_eq_getElem?_getD, List.getD_eq_getElem?_getD, List.getElem?_drop]
    · have hbs : ∀ b ∈ (way g k (rt h)).drop j, (0 < b ∧ b ≤ n) ∧ ¬ abv (gW g b) (gK g b) (wgt (drw sd)) k = true := fun b hb => ⟨(hway b (List.mem_of_mem_drop hb)).2, hnab b hb⟩
      have hag := pl2_agr k g n ((way g k (rt h)).drop j)
      have hple := pl2_le k g n ((way g k (rt h)).drop j)
      have epl : pln k (wgt (drw sd)) (way g k (rt h)).reverse g n 0 0 = ((pl2 k g n ((way g k (rt h)).drop j)).1, n + ((way g k (rt h)).drop j).length, (pl2 k g n ((way g k (rt h)).drop j)).2.1, (pl2 k g n ((way g k (rt h)).drop j)).2.2, ((way g k (rt h)).take j).reverse) := by
        have e0 : (way g k (rt h)).reverse = ((way g k (rt h)).drop j).reverse ++ ((way g k (rt h)).take j).reverse := by rw [← List.reverse_append, List.take_append_drop]
        rw [e0, pln_pl2 k _ g n _ _ hbs]
        refine pln_stop k _ (fun i hi => ?_)
        have hi' := List.mem_reverse.mp (List.mem_of_mem_head? hi)
        have hi2 := (hway i (List.mem_of_mem_take hi')).2
        rw [(hag i hi2.1 hi2.2).1, (hag i hi2.1 hi2.2).2.2.1]
        exact hab i hi'
      have hwf := pnw_wf hw k v (wgt (drw sd)) hin epl
      rw [epl] at hp
      dsimp only at hp
      generalize hbsd : (way g k (rt h)).drop j = bs at *
      have hll : l.length = j := by rw [← List.length_map (f := Prod.fst), hlm, List.length_take]; omega
      have hSn' : ∀ i, Sup (liv g lv rt V) n (n + bs.length) i → i ≤ n + bs.length := by
        rintro i (z | z)
        · have := liv_n hrt i z; omega
        · exact z.2
      have hx0r : ∀ i, Sup (liv g lv rt V) n (n + bs.length) i → rl' i ≠ x0 := by
        intro i hi e
        rcases z7 i hi with ⟨w1, w2⟩ | w
        · rw [w2] at e; exact hx0l i w1 e
        · omega
      have fr6 : ∀ c, 6 ≤ c → c ≤ 8 → s6 c x0 = s4 c x0 := by
        intro c c1 c2
        rw [z5 c (by omega) (by omega) x0 hx0n (fun q => by have := congrArg Prod.fst q; dsimp only at this; omega) (fun q => by have := congrArg Prod.fst q; dsimp only at this; omega), y5 c (by simp; omega)]
      have hbase := repM_add z1 hSn' (r := x0) (by omega) hx0r (l := (pl2 k g n bs).2.1) (r' := (pl2 k g n bs).2.2) (hple.1.imp id Or.inr) (hple.2.imp id Or.inr) (k := k) (v := v) (w := wgt (drw sd)) (by rw [fr6 6 (by decide) (by decide)]; exact q6) (by rw [fr6 7 (by decide) (by decide)]; exact q7) (by rw [fr6 8 (by decide) (by decide)]; exact q8) z3 z4
      rw [Sup_tr _ (by omega) (by omega)] at hbase
      have hs6 : sam [6, 7, 8, 9, 10, 17, 18, 19, 20, 21] s1 s6 := hs5.tr (z6.up (by decide))
      obtain ⟨hch, h19, -, hnd, hrows⟩ := id y4
      have hr6 : repM s6 g rl (liv g lv rt V) := by
        refine ⟨fun i hi => ?_, hr.2⟩
        obtain ⟨i0, ⟨p0, p1, p2, p3, p4, p5⟩, kc⟩ := y1.1 i hi
        have hrn : rl i < nx ∨ nx ≤ rl i := Nat.lt_or_ge _ _
        rcases hrn with hrn | hrn
        · have ne1 : ∀ c d : Nat, (c, rl i) ≠ (d, x0) := fun c d q => hx0l i hi (congrArg Prod.snd q)
          exact ⟨i0, ⟨p0, by rw [z5 6 (by decide) (by decide) _ hrn (ne1 6 9) (ne1 6 10)]; exact p1, by rw [z5 7 (by decide) (by decide) _ hrn (ne1 7 9) (ne1 7 10)]; exact p2, by rw [z5 8 (by decide) (by decide) _ hrn (ne1 8 9) (ne1 8 10)]; exact p3, by rw [z5 9 (by decide) (by decide) _ hrn (ne1 9 9) (ne1 9 10)]; exact p4, by rw [z5 10 (by decide) (by decide) _ hrn (ne1 10 9) (ne1 10 10)]; exact p5⟩, kc⟩
        · -- a live row beyond: read off the new picture
          have hin' := liv_n hrt i hi
          obtain ⟨-, ⟨p0', p1', p2', p3', p4', p5'⟩, -⟩ := z1.1 i (Or.inl hi)
          obtain ⟨b1, b2, b3, b4, b5⟩ := hag i i0 hin'
          have kids := repM_kid hr hi
          have kl : gL g i ≤ n := by rcases kids.1 with e | e; omega; exact liv_n hrt _ e
          have kr : gR g i ≤ n := by rcases kids.2 with e | e; omega; exact liv_n hrt _ e
          rw [z2 i hin', b1] at p1'
          rw [z2 i hin', b2] at p2'
          rw [z2 i hin', b3] at p3'
          rw [z2 i hin', b4] at p4'
          rw [z2 i hin', b5] at p5'
          have m1 : mI rl' (gL g i) = mI rl (gL g i) := by unfold mI; rw [z2 _ kl]
          have m2 : mI rl' (gR g i) = mI rl (gR g i) := by unfold mI; rw [z2 _ kr]
          exact ⟨i0, ⟨p0, p1', p2', p3', by rw [← m1]; exact p4', by rw [← m2]; exact p5'⟩, kc⟩
      have H6 := MR_build H1 hs6 hr6
      have hch6 : CH s6 g rl k l (nI x0) := by
        refine CH_fr (fun q hq c c1 c2 => ?_) hch
        have hqx := hlx q hq
        exact z5 c c1 c2 q.2 (hrows q hq).1 (fun e => hqx (congrArg Prod.snd e)) (fun e => hqx (congrArg Prod.snd e))
      have emx : mI (upn rl' (n + bs.length + 1) x0) (n + bs.length + 1) = nI x0 := by rw [mI_s _ (by omega), upn_eq]
      refine openC H6 hh hbase (by omega) (hag.tr (agr.add _ (n + bs.length) _ _ _ _ _) (by omega)) (z2.tr (plx.up rl' (n + bs.length) x0) (by omega)) (t := n + bs.length + 1) (Or.inr (by omega)) (k := k) (l := l) hl5 (by rw [emx]; exact hch6) (by rw [emx, z6.at 19]; exact h19) hnd (fun q hq => ⟨(hrows q hq).2.1, fun i hi e => ?_⟩) ?_ (fun rl2 s7 h7 => hp rl2 s7 ?_)
      · by_cases ei : i = n + bs.length + 1
        · rw [ei, upn_eq] at e; exact hlx q hq e.symm
        · rw [upn_ne _ _ ei] at e
          have hi' : Sup (liv g lv rt V) n (n + bs.length) i := by
            rcases hi with w | w
            · exact Or.inl w
            · exact Or.inr (by omega)
          rcases z7 i hi' with ⟨w1, w2⟩ | w
          · rw [w2] at e
            have a1 := y2 i w1
            have a2 := (hrows q hq).2.2
            rw [e, a2] at a1; exact absurd a1 (by decide)
          · have := (hrows q hq).1; omega
      · rw [hlm, show n + bs.length + 1 + l.length = n + (way g k (rt h)).length + 1 by omega]; exact hwf
      · rw [hlm, show n + bs.length + 1 + l.length = n + (way g k (rt h)).length + 1 by omega] at h7; exact h7
  have lp : ∀ (f j : Nat) (l : List (Nat × Nat)) (vv : Int32) (s4 : CS) (nx : Nat), j ≤ (way g k (rt h)).length → (way g k (rt h)).length < j + f → repM s4 g rl (liv g lv rt V) → lvM s4 rl (liv g lv rt V) → WS s4 (j + 1) nx → nx ≤ 160 → x0 < nx → HB s4 g rl k nx l vv → l.map Prod.fst = (way g k (rt h)).take j → (∀ q ∈ l, q.2 ≠ x0) → (s4 6 x0 = k ∧ s4 7 x0 = v ∧ s4 8 x0 = wgt (drw sd) ∧ s4 9 x0 = -1 ∧ s4 10 x0 = -1) → s4 11 x0 = 0 → sam [6, 7, 8, 9, 10, 17, 18, 19, 20, 21] s1 s4 → (∀ a ∈ (way g k (rt h)).take j, abv (gW g a) (gK g a) (wgt (drw sd)) k = true) →
      lp_X3_putNew_37 (fun u22 => wrZ u22 15 8 (nI h') 1 (fun u23 => nmI (u23 19 0) (fun z24 => wrA u23 16 8 (nI h') z24 (fun u25 => post (nI h') u25)))) f k (nI x0) (nI j) s4 := by
    intro f
    induction f with
    | zero => intro j l vv s4 nx a b; omega
    | succ f ih =>
      intro j l vv s4 nx hj1 hj2 hr4 hL4 hW4 hnx hx0n hb4 hlm hlx q0 q11 hs4 hab
      obtain ⟨q6, q7, q8, q9, q10⟩ := id q0
      have hy4 := hy1.sam hs4 (by decide) (by decide)
      unfold lp_X3_putNew_37
      refine nmI.mk ?_
      rw [hy4.1]
      refine brN.mk (fun c => ?_) (fun c => ?_)
      · have e : (way g k (rt h)).length ≤ j := (nI_leI (by omega) (by omega)).mp c
        exact FIN j l vv s4 nx hj1 hr4 hL4 hW4 hnx hx0n hb4 hlm hlx q0 q11 hs4 hab (fun b hb => by rw [List.drop_eq_nil_of_le e] at hb; cases hb)
      · have ej : j < (way g k (rt h)).length := by
          rcases Nat.lt_or_ge j (way g k (rt h)).length with q | q
          · exact q
          · exact absurd (nI_le q (by omega)) c
        have htk := take_snoc ej
        have hmem := getD_mem ej
        have hya := hy4.2 j ej
        have hdrop : (way g k (rt h)).drop j = (way g k (rt h)).getD j 0 :: (way g k (rt h)).drop (j + 1) := by
          rw [List.getD_eq_getElem?_getD, List.getElem?_eq_getElem ej]; exact List.drop_eq_getElem_cons ej
        generalize hea : (way g k (rt h)).getD j 0 = a at htk hmem hya hdrop
        obtain ⟨hSa, ha0, han⟩ := hway a hmem
        obtain ⟨-, ⟨r0, r1, -, r3, -⟩, -⟩ := hr4.1 a hSa
        refine rdA.mk j rfl (by omega) (by omega) ?_
        rw [hya]
        have above : ∀ (P : Int32 → CS → Prop), P (bI (abv (gW g a) (gK g a) (wgt (drw sd)) k)) s4 → wp_X3_above (nI (rl a)) (nI x0) s4 P := by
          intro P hP
          unfold wp_X3_above
          refine rdA.mk (rl a) rfl r0 (by omega) ?_
          refine rdA.mk x0 rfl (by omega) (by omega) ?_
          rw [r3, q8]
          refine brN.mk (fun d => ?_) (fun d => ?_)
          · rw [show abv (gW g a) (gK g a) (wgt (drw sd)) k = true by simp [abv, d]] at hP; exact hP
          · refine rdA.mk (rl a) rfl r0 (by omega) ?_
            refine rdA.mk x0 rfl (by omega) (by omega) ?_
            rw [r3, q8]
            refine brN.mk (fun d2 => ?_) (fun d2 => ?_)
            · refine rdA.mk (rl a) rfl r0 (by omega) ?_
              refine rdA.mk x0 rfl (by omega) (by omega) ?_
              rw [r1, q6]
              refine brN.mk (fun d3 => ?_) (fun d3 => ?_)
              · rw [show abv (gW g a) (gK g a) (wgt (drw sd)) k = false by simp [abv, d, i32_nlt.mpr d3]] at hP; exact hP
              · rw [show abv (gW g a) (gK g a) (wgt (drw sd)) k = true by simp [abv, d2, i32_nle.mp d3]] at hP; exact hP
            · rw [show abv (gW g a) (gK g a) (wgt (drw sd)) k = false by simp [abv, d, d2]] at hP; exact hP
        refine above _ (brN.mk (fun c2 => ?_) (fun c2 => ?_))
        · have c2' : ¬ abv (gW g a) (gK g a) (wgt (drw sd)) k = true := by rw [bI_0.mp c2]; simp
          refine FIN j l vv s4 nx hj1 hr4 hL4 hW4 hnx hx0n hb4 hlm hlx q0 q11 hs4 hab (fun b hb => ?_)
          rw [hdrop] at hb
          rcases List.mem_cons.mp hb with q | q
          · rw [q]; exact c2'
          · intro hb2
            -- a goes above b, b above the new one
            have hck : chk g k ((way g k (rt h)).drop j).reverse := by
              have e0 : (way g k (rt h)).reverse = ((way g k (rt h)).drop j).reverse ++ ((way g k (rt h)).take j).reverse := by rw [← List.reverse_append, List.take_append_drop]
              rw [e0] at hchk
              have pre : ∀ (l l' : List Nat), chk g k (l ++ l') → chk g k l := by
                intro l
                induction l with
                | nil => intro l' _; exact trivial
                | cons i l ihl =>
                  intro l' hc
                  obtain ⟨c1, c2, c3⟩ := hc
                  refine ⟨fun a ha => c1 a (List.mem_append_left _ ha), fun a ha => c2 a ?_, ihl l' c3⟩
                  cases l with
                  | nil => cases ha
                  | cons z l => exact ha
              exact pre _ _ hchk
            have hab2 : abB g a b = true := by
              rw [hdrop, List.reverse_cons] at hck
              have hbm : b ∈ ((way g k (rt h)).drop (j + 1)).reverse := List.mem_reverse.mpr q
              have gen : ∀ (l : List Nat), chk g k (l ++ [a]) → ∀ b ∈ l, abB g a b = true := by
                intro l
                induction l with
                | nil => intro _ b hb; cases hb
                | cons i l ihl =>
                  intro hc b hb
                  rcases List.mem_cons.mp hb with z | z
                  · rw [z]; exact chk_hp hc a (List.mem_append_right _ List.mem_cons_self)
                  · exact ihl hc.2.2 b z
              exact gen _ hck b hbm
            exact c2' (abv_tr hab2 hb2)
        · have c2' : abv (gW g a) (gK g a) (wgt (drw sd)) k = true := by
            cases hb : abv (gW g a) (gK g a) (wgt (drw sd)) k with
            | true => rfl
            | false => rw [hb] at c2; exact absurd rfl c2
          refine rdA.mk j rfl (by omega) (by omega) ?_
          rw [hya]
          refine copyM_spec hr4 hW4 (by omega) hnx hL4 hSa hb4 (fun x s5 y1 y2 y3 y4 y5 y6 y7 y8 y9 => ?_)
          have hL5 : lvM s5 rl (liv g lv rt V) := fun i hi => by rw [y8.at 11]; exact hL4 i hi
          have hd : ∀ q ∈ l, q.2 ≠ x := fun q hq e => by have := (hb4.2.2.2.2 q hq).1; omega
          refine hangB (a := a) (x := x) (u2 := 0) y5 hL5 y4 y6 (fun s6 w1 w2 w3 w4 w5 w6 => ?_)
          obtain ⟨c6, c7, c8, c9, c10⟩ := y7
          have hc6 : cpd s6 g rl a x := ⟨by rw [w5.at 6]; exact c6, by rw [w5.at 7]; exact c7, by rw [w5.at 8]; exact c8, by rw [w6 9 (by decide) (by decide) x hd]; exact c9, by rw [w6 10 (by decide) (by decide) x hd]; exact c10⟩
          have hx0x : x0 ≠ x := by omega
          have hq6 : s6 6 x0 = k ∧ s6 7 x0 = v ∧ s6 8 x0 = wgt (drw sd) ∧ s6 9 x0 = -1 ∧ s6 10 x0 = -1 := by
            refine ⟨?_, ?_, ?_, ?_, ?_⟩
            · rw [w5.at 6, y9 6 (by decide) (by decide) x0 hx0x]; exact q6
            · rw [w5.at 7, y9 7 (by decide) (by decide) x0 hx0x]; exact q7
            · rw [w5.at 8, y9 8 (by decide) (by decide) x0 hx0x]; exact q8
            · rw [w6 9 (by decide) (by decide) x0 hlx, y9 9 (by decide) (by decide) x0 hx0x]; exact q9
            · rw [w6 10 (by decide) (by decide) x0 hlx, y9 10 (by decide) (by decide) x0 hx0x]; exact q10
          have nxt : ∀ b : Int32, b = bI (decide (gK g a < k)) → wp_X3_holeAt (nI x) b s6 (fun u45 => nmI (nI j + 1) (fun z46 => lp_X3_putNew_37 (fun u22 => wrZ u22 15 8 (nI h') 1 (fun u23 => nmI (u23 19 0) (fun z24 => wrA u23 16 8 (nI h') z24 (fun u25 => post (nI h') u25)))) f k (nI x0) z46 u45)) := by
            intro b hb
            refine holeAt_spec w4 hc6 (by omega) (by omega) (by rw [w5.at 11, y8.at 11]; exact y3) hd hb (fun s7 v1 v2 => nmI.mk ?_)
            rw [nI_1]
            refine ih (j + 1) (l ++ [(a, x)]) _ s7 (x + 1) (by omega) (by omega) (w1.sam v2 (by decide)) (fun i hi => by rw [v2.at 11]; exact w2 i hi) (w3.sam v2 (by decide) (by decide) (by decide)) (by omega) (by omega) v1 (by rw [List.map_append, hlm, htk]; rfl) (fun q hq => ?_) ?_ ?_ (hs4.tr ((y8.up (by decide)).tr ((w5.up (by decide)).tr (v2.up (by decide))))) (fun b hb2 => ?_)
            · rcases List.mem_append.mp hq with z | z
              · exact hlx q z
              · simp at z; rw [z]; exact fun e => hx0x e.symm
            · obtain ⟨p6, p7, p8, p9, p10⟩ := hq6
              exact ⟨by rw [v2.at 6]; exact p6, by rw [v2.at 7]; exact p7, by rw [v2.at 8]; exact p8, by rw [v2.at 9]; exact p9, by rw [v2.at 10]; exact p10⟩
            · rw [v2.at 11, w5.at 11, y8.at 11]; exact q11
            · rw [htk] at hb2
              rcases List.mem_append.mp hb2 with z | z
              · exact hab b z
              · simp at z; rw [z]; exact c2'
          refine rdA.mk x rfl (by omega) (by omega) ?_
          rw [hc6.1]
          refine brN.mk (fun c3 => nxt 0 ?_) (fun c3 => nxt 1 ?_)
          · rw [show decide (gK g a < k) = false by simp [i32_nlt.mpr c3]]; rfl
          · rw [show decide (gK g a < k) = true by simp [i32_nle.mp c3]]; rfl
  exact ⟨_, lp ((way g k (rt h)).length + 1) 0 [] (-1) s2 (x0 + 1) (by omega) (by omega) hr2 (fun i hi => by rw [hs2.at 11]; exact hL1 i hi) x4 (by omega) (by omega) hb2 rfl (fun q hq => (by cases hq)) ⟨t6, t7, t8, t9, t10⟩ (by rw [hs2.at 11]; exact x3) (hs2.up (by decide)) (fun a ha => by simp at ha)⟩
theorem begin2_spec (H : MR C V s g n rl lv rt sd us sw) {post : CS → Prop} (hp : ∀ s', MR C V s' g n rl lv rt sd us sw → (∀ k, BS s' s' g rl (liv g lv rt V) k [] (-1) 0) → sam [11, 13, 14, 17, 18, 19, 20] s s' → s' 18 0 = 0 → post s') : wp_X3_begin s post := by
  obtain ⟨⟨hC, hV⟩, hw, hrt, hr, hlv, hro, e1, e2, e3, e4, e5, hus, hlc⟩ := id H
  unfold wp_X3_begin
  refine markAll_spec H (fun s1 hs1 hm1 hc1 => stF.mk (stF.mk (stF.mk (stF.mk ?_))))
  have hs2 : sam [11, 13, 14, 17, 18, 19, 20] s (cset (cset (cset (cset s1 17 (fun _ => 0)) 18 (fun _ => 0)) 19 (fun _ => -1)) 20 (fun _ => -1)) := (((((hs1.up (by decide)).tr (sam.cs (by decide))).tr (sam.cs (by decide))).tr (sam.cs (by decide))).tr (sam.cs (by decide)))
  have t11 : cset (cset (cset (cset s1 17 (fun _ => 0)) 18 (fun _ => 0)) 19 (fun _ => -1)) 20 (fun _ => -1) 11 = s1 11 := by simp [cset_ap]
  have t17 : cset (cset (cset (cset s1 17 (fun _ => 0)) 18 (fun _ => 0)) 19 (fun _ => -1)) 20 (fun _ => -1) 17 0 = 0 := by simp [cset_ap]
  have t18 : cset (cset (cset (cset s1 17 (fun _ => 0)) 18 (fun _ => 0)) 19 (fun _ => -1)) 20 (fun _ => -1) 18 0 = 0 := by simp [cset_ap]
  have t19 : cset (cset (cset (cset s1 17 (fun _ => 0)) 18 (fun _ => 0)) 19 (fun _ => -1)) 20 (fun _ => -1) 19 0 = -1 := by simp [cset_ap]
  have t20 : cset (cset (cset (cset s1 17 (fun _ => 0)) 18 (fun _ => 0)) 19 (fun _ => -1)) 20 (fun _ => -1) 20 0 = -1 := by simp [cset_ap]
  generalize cset (cset (cset (cset s1 17 (fun _ => 0)) 18 (fun _ => 0)) 19 (fun _ => -1)) 20 (fun _ => -1) = s2 at hs2 t11 t17 t18 t19 t20 ⊢
  refine hp s2 (MR_sam H hs2 (by decide)) (fun k => ⟨hr.sam hs2 (by decide), fun i hi => ?_, ⟨0, by omega, ⟨t17, t18, rfl, by rw [t11]; exact hm1.1, by rw [t11, hc1]; omega⟩, trivial, t19, t20, List.Pairwise.nil, fun q hq => (by cases hq)⟩, sam.rf, fun q hq => (by cases hq)⟩) hs2 t18
  rw [t11]
  refine (hm1.2.1 i hi).mpr ?_
  unfold mkM; rw [decide_eq_true_iff]; exact mkl_mem.mpr hi
theorem putM_spec (H : MR C V s g n rl lv rt sd us sw) {h : Nat} (h1 : h < V) (h2 : lv h = true) {k v : Int32} {post : Int32 → CS → Prop}
    (hp : ∀ rl2 s2, (lvA V (putO C V g n lv rt sd us sw h k v).2 ≤ C → MRa C V s2 rl2 (putO C V g n lv rt sd us sw h k v).2) → post (putO C V g n lv rt sd us sw h k v).1 s2) : wp_X3_put (nI h) k v s post := by
  have hsz := H.size h1 h2
  unfold wp_X3_put
  refine stF.mk ?_
  have H1 := MR_sam H (sam.cs (J := [0]) (i := 0) (f := fun _ => 0) (by decide)) (by decide)
  generalize cset s 0 (fun _ => 0) = s1 at H1 ⊢
  refine has_spec H1 (fun _ _ _ _ => brN.mf (by decide) ?_) (fun q => absurd ⟨h, h1, rfl, h2⟩ q)
  unfold putO aup at hp
  refine freeHandle_spec H1 (fun e => ?_) (fun h' e hh => ?_)
  · rw [e] at hp
    exact brN.mf (by decide) (hp rl s1 (fun _ => H1))
  · rw [e] at hp
    obtain ⟨⟨hC, hV⟩, hw, hrt, hr, hlv, hro, e1, e2, e3, e4, e5, hus, hlc⟩ := id H1
    have hin := hrt h h1 h2
    have hil := liv_rt hw hrt h1 h2
    have hwl := way_len hw k _ hin
    refine brN.mt (nI_pos' (by omega)) (begin2_spec H1 (fun s2 H2 hB2 hs2 b18 => ?_))
    obtain ⟨-, -, -, hr2, -, hro2, -⟩ := id H2
    obtain ⟨-, -, ⟨nx, -, ⟨b17, -, -⟩, -, b19, b20, -⟩, -⟩ := hB2 k
    refine rdA.mk h rfl (by omega) (by omega) ?_
    rw [hro2 h h1 h2]
    refine findM_spec hr2 hw hil hin ?_
    have hfl : fnd g k (rt h) = 0 ∨ liv g lv rt V (fnd g k (rt h)) := by
      by_cases e : fnd g k (rt h) = 0
      · exact Or.inl e
      · exact Or.inr ⟨h, h1, h2, (fnd_mem hw k _ hin e).1⟩
    -- behind the way: the room, then the building
    have tk : ∀ (s3 : CS) (B : CS → Prop), sam [22, 23] s2 s3 → (∀ s4 us1 sw1, MR C V s4 g n rl lv rt sd us1 sw1 → BS s4 s4 g rl (liv g lv rt V) k [] (-1) 0 → sam [4, 5, 11, 13, 14] s3 s4 → (∀ rl2 s5, (lvc (putB g n sd k v (rt h)).1 (upn lv h' true) (upn rt h' (putB g n sd k v (rt h)).2.2.1) V ≤ C → MR C V s5 (putB g n sd k v (rt h)).1 (putB g n sd k v (rt h)).2.1 rl2 (upn lv h' true) (upn rt h' (putB g n sd k v (rt h)).2.2.1) (putB g n sd k v (rt h)).2.2.2 us1 sw1) → post (nI h') s5) → B s4) →
        wp_X3_takes (nI ((way g k (rt h)).length + 1)) s3 (fun r19 u18 => brN (r19 = 0) (post (-3) u18) (B u18)) := by
      intro s3 B hs3 hBB
      have H3 := MR_sam H2 hs3 (by decide)
      refine takes_spec H3 (by omega) (fun q s4 H4 hs4 => ?_) (fun q s4 hs4 hm4 hc4 => ⟨fun q2 H4 => ?_, fun q2 H4 => ?_⟩)
      · simp only [if_pos q] at hp
        refine brN.mf (by decide) (hBB s4 _ _ H4 (BS_base (BS_base (hB2 k) hs3 (by decide)) hs4 (by decide)) (hs4.up (by decide)) (fun rl2 s5 h5 => hp rl2 s5 h5))
      · simp only [if_neg q, if_pos q2] at hp
        obtain ⟨-, -, -, hr4, -⟩ := id H4
        refine brN.mf (by decide) (hBB s4 _ _ H4 (BS_0 hr4 (fun i hi => (hm4.2.1 i hi).mpr ?_) hm4.1 (by omega) ?_ ?_ ?_ ?_ k) hs4 (fun rl2 s5 h5 => hp rl2 s5 h5))
        · unfold mkM; rw [decide_eq_true_iff]; exact mkl_mem.mpr hi
        · rw [hs4.at 17, hs3.at 17]; exact b17
        · rw [hs4.at 18, hs3.at 18]; exact b18
        · rw [hs4.at 19, hs3.at 19]; exact b19
        · rw [hs4.at 20, hs3.at 20]; exact b20
      · simp only [if_neg q, if_neg q2] at hp
        exact brN.mt rfl (hp rl s4 (fun _ => H4))
    refine brN.mk (fun c => ?_) (fun c => ?_)
    · have ex := (hr2.neg hfl).mp c
      refine rdA.mk h rfl (by omega) (by omega) ?_
      rw [hro2 h h1 h2]
      refine goM_spec (e := false) hr2 hw hil hin (by omega) (fun s3 hs3 hy3 => nmI.mk (nmI.mk ?_))
      rw [goL_f hw k _ hin ex] at hy3
      rw [hy3.1, nI_1]
      refine tk s3 _ hs3 (fun s4 us1 sw1 H4 hB4 hs4 hp4 => ?_)
      exact putNewM H4 h1 h2 hh hB4 ex (hy3.sam hs4 (by decide) (by decide)) hp4
    · have ex : fnd g k (rt h) ≠ 0 := fun q => c ((hr2.neg hfl).mpr q)
      refine rdA.mk h rfl (by omega) (by omega) ?_
      rw [hro2 h h1 h2]
      refine goM_spec (e := true) hr2 hw hil hin (by omega) (fun s3 hs3 hy3 => nmI.mk ?_)
      rw [goL_t hw k _ hin ex] at hy3
      rw [hy3.1, List.length_append, List.length_singleton]
      refine tk s3 _ hs3 (fun s4 us1 sw1 H4 hB4 hs4 hp4 => ?_)
      exact putValueM H4 h1 h2 hh hB4 ex (hy3.sam hs4 (by decide) (by decide)) hp4
end PutM3
