/-! the reference's put, whole -/
section PutM2
variable {C V n : Nat} {s : CS} {g : LG} {rl : Nat → Nat} {lv : Nat → Bool} {rt : Nat → Nat} {sd sw : Int32} {us : Nat}
theorem BS_0 {S : Nat → Prop} (hr : repM s g rl S) (hL : lvM s rl S) (hB : ∀ x, x < 160 → isB (s 11 x)) (hc : ctB (s 11) 160 ≤ 40) (h17 : s 17 0 = 0) (h18 : s 18 0 = 0) (h19 : s 19 0 = -1) (h20 : s 20 0 = -1) (k : Int32) : BS s s g rl S k [] (-1) 0 :=
  ⟨hr, hL, ⟨0, by omega, ⟨h17, h18, rfl, hB, hc⟩, trivial, h19, h20, List.Pairwise.nil, fun q hq => (by cases hq)⟩, sam.rf, fun q hq => (by cases hq)⟩
/-- the chain over a base that holds t at row v, opened -/
theorem openC (H : MR C V s g n rl lv rt sd us sw) {h : Nat} (hh : h < V) {g1 : LG} {rl1 : Nat → Nat} {n1 t : Nat} (hr1 : repM s g1 rl1 (Sup (liv g lv rt V) n n1)) (hn1 : n ≤ n1) (ha1 : agr g g1 n) (hpx1 : plx rl rl1 n) (ht : Sup (liv g lv rt V) n n1 t) {k : Int32} {l : List (Nat × Nat)} (hl : ∀ q ∈ l, liv g lv rt V q.1) (hch : CH s g rl k l (mI rl1 t)) (h19 : s 19 0 = hdv l (mI rl1 t)) (hnd : (l.map Prod.snd).Nodup) (hq : ∀ q ∈ l, q.2 < 160 ∧ ∀ i, Sup (liv g lv rt V) n n1 i → rl1 i ≠ q.2)
    (hwf : wfG (cpo k (l.map Prod.fst).reverse g1 n1 t).1 (n1 + l.length) ∧ agr g (cpo k (l.map Prod.fst).reverse g1 n1 t).1 n ∧ (cpo k (l.map Prod.fst).reverse g1 n1 t).2 ≤ n1 + l.length) {post : Int32 → CS → Prop}
    (hp : ∀ rl2 s2, (lvc (cpo k (l.map Prod.fst).reverse g1 n1 t).1 (upn lv h true) (upn rt h (cpo k (l.map Prod.fst).reverse g1 n1 t).2) V ≤ C → MR C V s2 (cpo k (l.map Prod.fst).reverse g1 n1 t).1 (n1 + l.length) rl2 (upn lv h true) (upn rt h (cpo k (l.map Prod.fst).reverse g1 n1 t).2) sd us sw) → post (nI h) s2) : wrZ s 15 8 (nI h) 1 (fun u => nmI (u 19 0) (fun z => wrA u 16 8 (nI h) z (fun u2 => post (nI h) u2))) := by
  obtain ⟨⟨hC, hV⟩, hw, hrt, hr, -⟩ := id H
  have hSn1 : ∀ i, Sup (liv g lv rt V) n n1 i → i ≤ n1 := by
    rintro i (z | z)
    · have := liv_n hrt i z; omega
    · exact z.2
  have hch1 := CH_agr ha1 hpx1 hw.ac (fun q hq => ⟨(hr.1 _ (hl q hq)).1, liv_n hrt _ (hl q hq)⟩) hch
  obtain ⟨rl', r1, r2, r3, r4⟩ := chain_rep hr1 hSn1 (Or.inr ht) l (fun q hq => Or.inl (hl q hq)) hch1 hnd hq
  rw [Sup_tr _ hn1 (by omega)] at r1
  refine openM H hh r1 (by rw [r3]; exact h19) hwf.1 hwf.2.1 (by omega) hwf.2.2 ?_ (hpx1.tr r2 hn1) (fun s2 h2 => hp rl' s2 h2)
  rw [cpo_top]
  by_cases e : (l.map Prod.fst).reverse = []
  · rw [if_pos e]
    rcases ht with q | q
    · exact Or.inr (Or.inl q)
    · exact Or.inr (Or.inr (by omega))
  · rw [if_neg e, List.length_reverse, List.length_map]
    have : l ≠ [] := fun q => e (by rw [q]; rfl)
    have : 0 < l.length := List.length_pos_iff.mpr this
    exact Or.inr (Or.inr (by omega))
theorem MR_build (H : MR C V s g n rl lv rt sd us sw) {s1 : CS} (hs : sam [6, 7, 8, 9, 10, 17, 18, 19, 20, 21] s s1) (hr : repM s1 g rl (liv g lv rt V)) : MR C V s1 g n rl lv rt sd us sw := by
  obtain ⟨a1, hw, hrt, -, hlv, hro, e1, e2, e3, e4, e5, hus, hlc⟩ := H
  refine ⟨a1, hw, hrt, hr, ?_, ?_, ?_, ?_, ?_, ?_, ?_, hus, hlc⟩
  · rw [hs.at 15]; exact hlv
  · rw [hs.at 16]; exact hro
  · rw [hs.at 1]; exact e1
  · rw [hs.at 2]; exact e2
  · rw [hs.at 3]; exact e3
  · rw [hs.at 4]; exact e4
  · rw [hs.at 5]; exact e5
/-- the value of a key that is there -/
theorem putValueM (H : MR C V s g n rl lv rt sd us sw) {h h' : Nat} (h1 : h < V) (h2 : lv h = true) (hh : h' < V) {k v : Int32} (hB : BS s s g rl (liv g lv rt V) k [] (-1) 0) (ex : fnd g k (rt h) ≠ 0) (hy : wayM s rl (way g k (rt h) ++ [fnd g k (rt h)])) {post : Int32 → CS → Prop}
    (hp : ∀ rl2 s2, (lvc (putB g n sd k v (rt h)).1 (upn lv h' true) (upn rt h' (putB g n sd k v (rt h)).2.2.1) V ≤ C → MR C V s2 (putB g n sd k v (rt h)).1 (putB g n sd k v (rt h)).2.1 rl2 (upn lv h' true) (upn rt h' (putB g n sd k v (rt h)).2.2.1) (putB g n sd k v (rt h)).2.2.2 us sw) → post (nI h') s2) :
    wp_X3_putValue k v s (fun u34 => wrZ u34 15 8 (nI h') 1 (fun u35 => nmI (u35 19 0) (fun z36 => wrA u35 16 8 (nI h') z36 (fun u37 => post (nI h') u37)))) := by
  have hsz := H.size h1 h2
  obtain ⟨⟨hC, hV⟩, hw, hrt, hr, hlv, hro, e1, e2, e3, e4, e5, hus, hlc⟩ := id H
  have hin := hrt h h1 h2
  have hxm := fnd_mem hw k _ hin ex
  have hxn := fnd_le hw k hin
  have hSx : liv g lv rt V (fnd g k (rt h)) := ⟨h, h1, h2, hxm.1⟩
  have hwl := way_len hw k _ hin
  have hxl := nd_len hw (by omega) hxn
  unfold putB at hp
  rw [if_neg ex] at hp
  dsimp only at hp
  have lp : ∀ (f j : Nat) (l : List (Nat × Nat)) (vv : Int32) (s4 : CS), j ≤ (way g k (rt h)).length → (way g k (rt h)).length + 1 < j + f → BS s s4 g rl (liv g lv rt V) k l vv j → l.map Prod.fst = (way g k (rt h)).take j → lp_X3_putValue_2 (fun u34 => wrZ u34 15 8 (nI h') 1 (fun u35 => nmI (u35 19 0) (fun z36 => wrA u35 16 8 (nI h') z36 (fun u37 => post (nI h') u37)))) f k v (nI j) s4 := by
    intro f
    induction f with
    | zero => intro j l vv s4 a b; omega
    | succ f ih =>
      intro j l vv s4 hj1 hj2 hB4 hlm
      obtain ⟨hr4, -, -, hs4, -⟩ := id hB4
      have hy4 := hy.sam hs4 (by decide) (by decide)
      have hyl : (way g k (rt h) ++ [fnd g k (rt h)]).length = (way g k (rt h)).length + 1 := by simp
      unfold lp_X3_putValue_2
      refine nmI.mk (brN.mf ?_ ?_)
      · rw [hy4.1, hyl]; intro c; exact absurd ((nI_leI (by omega) (by omega)).mp c) (by omega)
      refine rdA.mk j rfl (by omega) (by omega) ?_
      rw [hy4.2 j (by omega)]
      by_cases ej : j < (way g k (rt h)).length
      · rw [getD_app_lt _ _ ej]
        have hSa : liv g lv rt V ((way g k (rt h)).getD j 0) := ⟨h, h1, h2, (way_mem hw k _ hin _ (getD_mem ej)).1⟩
        refine stepB hB4 (by omega) hSa (fun x s5 hX => nmI.mk (nmI.mk ?_))
        obtain ⟨-, -, -, -, -, ⟨x1, -, -⟩, hs5, -⟩ := id hX
        rw [hs5.at 22, hy.1, hyl, nI_pred]
        refine brN.mf (fun c => absurd ((nI_eq (by omega) (by omega)).mp c) (by omega)) ?_
        refine rdA.mk x rfl (by omega) (by omega) (wrA.mk x rfl (by omega) (by omega) ?_)
        rw [upd_same, cset_same]
        refine holeB' hX (fun s6 hB6 => nmI.mk ?_)
        rw [nI_1]
        exact ih (j + 1) _ _ s6 (by omega) (by omega) hB6 (by rw [List.map_append, hlm, take_snoc ej]; rfl)
      · have ej : j = (way g k (rt h)).length := by omega
        rw [ej, List.take_length] at hlm
        subst ej
        rw [getD_app_last]
        refine stepB hB4 (by omega) hSx (fun x s5 hX => nmI.mk (nmI.mk ?_))
        obtain ⟨hr5, hL5, hW5, hb5, ⟨c6, c7, c8, c9, c10⟩, ⟨x1, x2, x3⟩, hs5, hl5, -⟩ := hX
        rw [hs5.at 22, hy.1, hyl, nI_pred]
        refine brN.mt rfl (wrA.mk x rfl (by omega) (by omega) ?_)
        have he6 : eqx s5 (cset s5 7 (upd (s5 7) x v)) x := by
          intro c q1 q2 r hr
          by_cases e : c = 7
          · subst e; rw [cset_eq, upd_ap, if_neg hr]
          · rw [cset_ne _ _ e]
        have e0 : ∀ c, c ≠ 7 → cset s5 7 (upd (s5 7) x v) c = s5 c := fun c hc => cset_ne _ _ hc
        have h7 : cset s5 7 (upd (s5 7) x v) 7 x = v := by rw [cset_eq, upd_ap, if_pos rfl]
        have hs6 : sam [7] s5 (cset s5 7 (upd (s5 7) x v)) := sam.cs (by decide)
        generalize cset s5 7 (upd (s5 7) x v) = s6 at he6 e0 h7 hs6 ⊢
        have hxl2 : ∀ i, liv g lv rt V i → rl i ≠ x := fun i hi e => by have := hL5 i hi; rw [e, x2] at this; exact absurd this (by decide)
        have hr6 := repM_eqx hr5 he6 hxl2
        have hb6 := HB_eqx hb5 he6 x3 (e0 11 (by decide)) (e0 19 (by decide)) (e0 20 (by decide)) (e0 21 (by decide)) (Nat.le_refl _)
        -- the hole moves once more, for nothing
        have fin : ∀ s7, sam [20, 21] s6 s7 → lp_X3_putValue_2 (fun u34 => wrZ u34 15 8 (nI h') 1 (fun u35 => nmI (u35 19 0) (fun z36 => wrA u35 16 8 (nI h') z36 (fun u37 => post (nI h') u37)))) f k v (nI ((way g k (rt h)).length + 1)) s7 := by
          intro s7 hs7
          obtain ⟨f, rfl⟩ : ∃ q, f = q + 1 := ⟨f - 1, by omega⟩
          unfold lp_X3_putValue_2
          have hall : sam [6, 7, 8, 9, 10, 17, 18, 19, 20, 21] s s7 := hs5.tr ((hs6.up (by decide)).tr (hs7.up (by decide)))
          refine nmI.mk (brN.mt (by rw [hall.at 22, hy.1, hyl]; exact nI_le (Nat.le_refl _) (by omega)) ?_)
          have hr7 := hr6.sam hs7 (by decide)
          have H7 := MR_build H hall hr7
          obtain ⟨hch, h19, -, hnd, hrows⟩ := hb6
          have hch7 : CH s7 g rl k l (nI x) := CH_eqx (x := 1000) (fun c q1 q2 r _ => by rw [hs7 c (by simp; omega)]) (fun q hq => by have := (hrows q hq).2.1; omega) hch
          have hwf := pvl_wf hw k v hin ex
          obtain ⟨w1, w2, -⟩ := hw _ (by omega) hxn
          have hbase : repM s7 (gadd g (n + 1) k v (gW g (fnd g k (rt h))) (gL g (fnd g k (rt h))) (gR g (fnd g k (rt h)))) (upn rl (n + 1) x) (Sup (liv g lv rt V) n (n + 1)) := by
            have kids := repM_kid hr hSx
            refine repM_add hr7 (liv_n hrt) (by omega) hxl2 kids.1 kids.2 ?_ ?_ ?_ ?_ ?_
            · rw [hs7.at 6, e0 6 (by decide), c6]; exact hxm.2
            · rw [hs7.at 7]; exact h7
            · rw [hs7.at 8, e0 8 (by decide)]; exact c8
            · rw [hs7.at 9, e0 9 (by decide)]; exact c9
            · rw [hs7.at 10, e0 10 (by decide)]; exact c10
          have emx : mI (upn rl (n + 1) x) (n + 1) = nI x := by rw [mI_s _ (by omega), upn_eq]
          have hll : l.length = (way g k (rt h)).length := by rw [← hlm, List.length_map]
          refine openC H7 hh hbase (by omega) (agr.add g n _ _ _ _ _) (plx.up rl n x) (t := n + 1) (Or.inr (by omega)) (k := k) (l := l) hl5 (by rw [emx]; exact hch7) (by rw [emx, hs7.at 19]; exact h19) hnd (fun q hq => ⟨(hrows q hq).2.1, fun i hi e => ?_⟩) ?_ (fun rl2 s2 h2 => hp rl2 s2 ?_)
          · rcases hi with z | z
            · rw [upn_ne _ _ (by have := liv_n hrt i z; omega)] at e
              have := hL5 i z; rw [e] at this
              have h0 := (hrows q hq).2.2; rw [e0 11 (by decide)] at h0; rw [h0] at this; exact absurd this (by decide)
            · have : i = n + 1 := by omega
              rw [this, upn_eq] at e
              exact x3 q hq e.symm
          · rw [hlm, hll]; exact hwf
          · rw [hlm, hll] at h2; exact h2
        refine rdA.mk x rfl (by omega) (by omega) ?_
        refine brN.mk (fun c => ?_) (fun c => ?_)
        · unfold wp_X3_holeAt
          refine stF.mk ⟨isB_0, stF.mk (nmI.mk ?_)⟩
          rw [nI_1]
          exact fin _ ((sam.cs (by decide)).tr (sam.cs (by decide)))
        · unfold wp_X3_holeAt
          refine stF.mk ⟨isB_1, stF.mk (nmI.mk ?_)⟩
          rw [nI_1]
          exact fin _ ((sam.cs (by decide)).tr (sam.cs (by decide)))
  unfold wp_X3_putValue
  exact ⟨_, lp ((way g k (rt h)).length + 2) 0 [] (-1) s (by omega) (by omega) hB rfl⟩
end PutM2
