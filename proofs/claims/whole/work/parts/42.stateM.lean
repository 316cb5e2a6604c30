/-! the reference's state against the log -/
def MR (C V : Nat) (s : CS) (g : LG) (n : Nat) (rl : Nat → Nat) (lv : Nat → Bool) (rt : Nat → Nat) (sd : Int32) (us : Nat) (sw : Int32) : Prop :=
  (C ≤ 40 ∧ V ≤ 8) ∧ wfG g n ∧ (∀ h, h < V → lv h = true → rt h ≤ n) ∧ repM s g rl (liv g lv rt V) ∧ (∀ h, h < V → s 15 h = bI (lv h)) ∧ (∀ h, h < V → lv h = true → s 16 h = mI rl (rt h)) ∧ s 1 0 = nI C ∧ s 2 0 = nI V ∧ s 3 0 = sd ∧ s 4 0 = nI us ∧ s 5 0 = sw ∧ us ≤ C ∧ lvc g lv rt V ≤ C
section StateM
variable {C V n : Nat} {s : CS} {g : LG} {rl : Nat → Nat} {lv : Nat → Bool} {rt : Nat → Nat} {sd sw : Int32} {us : Nat}
theorem MR.size (H : MR C V s g n rl lv rt sd us sw) {h : Nat} (h1 : h < V) (h2 : lv h = true) : (nd g (rt h)).length ≤ C := by
  obtain ⟨-, hw, hrt, -, -, -, -, -, -, -, -, -, hc⟩ := H
  have := len_sub (l' := mkl g lv rt V) (nd_nodup hw (hrt h h1 h2)) (fun x hx => mkl_mem.mpr ⟨h, h1, h2, hx⟩)
  unfold lvc at hc; omega
theorem MR_sam {J : List Nat} {s' : CS} (H : MR C V s g n rl lv rt sd us sw) (hs : sam J s s') (hJ : ∀ j ∈ J, j = 0 ∨ (11 ≤ j ∧ j ≤ 14) ∨ 17 ≤ j) : MR C V s' g n rl lv rt sd us sw := by
  obtain ⟨a1, a2, a3, a4, a5, a6, a7, a8, a9, a10, a11, a12, a13⟩ := H
  have e : ∀ j, (¬ (j = 0 ∨ (11 ≤ j ∧ j ≤ 14) ∨ 17 ≤ j)) → s' j = s j := fun j hj => hs j (fun q => hj (hJ j q))
  refine ⟨a1, a2, a3, a4.sam hs (fun j hj => by have := hJ j hj; omega), ?_, ?_, ?_, ?_, ?_, ?_, ?_, a12, a13⟩
  · rw [e 15 (by omega)]; exact a5
  · rw [e 16 (by omega)]; exact a6
  · rw [e 1 (by omega)]; exact a7
  · rw [e 2 (by omega)]; exact a8
  · rw [e 3 (by omega)]; exact a9
  · rw [e 4 (by omega)]; exact a10
  · rw [e 5 (by omega)]; exact a11
theorem has_spec (H : MR C V s g n rl lv rt sd us sw) {x : Int32} {post : Int32 → CS → Prop} (hy : ∀ h, h < V → x = nI h → lv h = true → post 1 s) (hn : (¬ ∃ h, h < V ∧ x = nI h ∧ lv h = true) → post 0 s) : wp_X3_has x s post := by
  obtain ⟨⟨-, hV⟩, -, -, -, hlv, -, -, h2, -⟩ := H
  unfold wp_X3_has
  rcases pk_ix x (n := V) (by omega) with h | h | ⟨h, hh, e⟩
  · refine brN.mt h (hn ?_)
    rintro ⟨j, j1, j2, -⟩; rw [j2] at h; exact absurd h (nI_pos (by omega))
  · refine brN.mk (fun h' => ?_) (fun _ => nmI.mk (brN.mt (by rw [h2]; exact h) (hn ?_)))
    · refine hn ?_
      rintro ⟨j, j1, j2, -⟩; rw [j2] at h'; exact absurd h' (nI_pos (by omega))
    · rintro ⟨j, j1, j2, -⟩; rw [j2] at h; exact absurd ((nI_leI (by omega) (by omega)).mp h) (by omega)
  · refine brN.mf (by rw [e]; exact nI_pos (by omega)) (nmI.mk (brN.mf (by rw [h2, e]; exact nI_ge hh (by omega)) ?_))
    refine rdA.mk h e (by omega) (by omega) ?_
    rw [hlv h hh]
    refine brN.mk (fun c => ?_) (fun c => ?_)
    · refine hn ?_
      rintro ⟨j, j1, j2, j3⟩
      have : j = h := (nI_eq (by omega) (by omega)).mp (by rw [← j2, ← e])
      rw [this, bI_0.mp c] at j3; cases j3
    · refine hy h hh e ?_
      cases hb : lv h with
      | true => rfl
      | false => rw [hb] at c; exact absurd rfl c
theorem ctB_z {f : Nat → Int32} : ∀ {m : Nat}, (∀ j, j < m → f j = 0) → ctB f m = 0
  | 0, _ => rfl
  | m + 1, h => by rw [ctB, ctB_z (fun j hj => h j (by omega)), h m (by omega)]; simp
theorem rmk_0 {mi : Nat} {S : Nat → Prop} (hr : repM s g rl S) (h : ∀ x, x < 160 → s mi x = 0) : RMK mi s rl S m0 := by
  refine ⟨fun x hx => Or.inl (h x hx), fun i hi => ?_, fun x hx e => ?_⟩
  · rw [h _ (hr.1 i hi).2.1.1]; simp [m0]
  · rw [h x hx] at e; exact absurd e (by decide)
theorem markAll_spec (H : MR C V s g n rl lv rt sd us sw) {post : Int32 → CS → Prop} (hp : ∀ s', sam [11, 13, 14] s s' → RMK 11 s' rl (liv g lv rt V) (mkM g lv rt V) → ctB (s' 11) 160 = lvc g lv rt V → post (nI (lvc g lv rt V)) s') : wp_X3_markAll s post := by
  have hsize := fun {h} => H.size (h := h)
  obtain ⟨⟨hC, hV⟩, hw, hrt, hr, hlv, hro, h1, h2, h3, h4, h5, hus, hlc⟩ := id H
  have lp2 : ∀ (f h : Nat) (s2 : CS), h ≤ V → V < h + f → sam [11, 13, 14] s s2 → RMK 11 s2 rl (liv g lv rt V) (mkM g lv rt h) → ctB (s2 11) 160 = lvc g lv rt h → lp_X3_markAll_26 post f (nI (lvc g lv rt h)) (nI h) s2 := by
    intro f
    induction f with
    | zero => intro h s2 a b; omega
    | succ f ih =>
      intro h s2 hh hf hs2 hm2 hc2
      unfold lp_X3_markAll_26
      refine nmI.mk ?_
      rw [hs2.at 2, h2]
      refine brN.mk (fun c => ?_) (fun c => ?_)
      · have e : V ≤ h := (nI_leI (by omega) (by omega)).mp c
        have e : h = V := by omega
        subst e
        exact hp s2 hs2 hm2 hc2
      · have hhV : h < V := by
          rcases Nat.lt_or_ge h V with q | q
          · exact q
          · exact absurd (nI_le q (by omega)) c
        refine rdA.mk h rfl (by omega) (by omega) ?_
        rw [hs2.at 15, hlv h hhV]
        refine brN.mk (fun c2 => ?_) (fun c2 => ?_)
        · have hb := bI_0.mp c2
          have e1 : lvc g lv rt (h + 1) = lvc g lv rt h := by unfold lvc; rw [mkl, if_neg (by rw [hb]; decide)]
          have e2 : mkM g lv rt (h + 1) = mkM g lv rt h := by unfold mkM; rw [mkl, if_neg (by rw [hb]; decide)]
          refine nmI.mk ?_
          rw [nI_1, ← e1]
          exact ih (h + 1) s2 (by omega) (by omega) hs2 (by rw [e2]; exact hm2) (by rw [e1]; exact hc2)
        · have hb : lv h = true := by
            cases hb : lv h with
            | true => rfl
            | false => rw [hb] at c2; exact absurd rfl c2
          refine rdA.mk h rfl (by omega) (by omega) ?_
          rw [hs2.at 16, hro h hhV hb]
          have hr2 := hr.sam hs2 (by decide)
          have e2 := mkM_succ (g := g) (rt := rt) hb
          have e1 : lvc g lv rt (h + 1) = lvc g lv rt h + nwc g (mkM g lv rt h) (rt h) := by
            unfold lvc nwc; rw [mkl, if_pos hb, List.length_append]; rfl
          refine mark_spec (Or.inl rfl) hr2 hw hm2 (mkM_clo hw (fun j hj => hrt j (by omega))) (liv_rt hw hrt hhV hb) (hrt h hhV hb) (by have := hsize hhV hb; omega) (fun s3 hs3 hm3 hc3 => ?_)
          refine nmI.mk (nmI.mk ?_)
          rw [nI_add, nI_1, ← e1]
          exact ih (h + 1) s3 (by omega) (by omega) (hs2.tr hs3) (by rw [e2]; exact hm3) (by rw [hc3, hc2, e1])
  have lp1 : ∀ (f x : Nat) (s1 : CS), x ≤ 160 → 160 < x + f → sam [11, 13, 14] s s1 → (∀ j, j < x → s1 11 j = 0) → lp_X3_markAll_2 post f (nI x) s1 := by
    intro f
    induction f with
    | zero => intro x s1 a b; omega
    | succ f ih =>
      intro x s1 hx hf hs1 hz
      unfold lp_X3_markAll_2
      by_cases e : x = 160
      · subst e
        refine brN.mt (by decide) ⟨V + 1, ?_⟩
        have e0 : mkM g lv rt 0 = m0 := by funext j; simp [mkM, mkl, m0]
        exact lp2 (V + 1) 0 s1 (by omega) (by omega) hs1 (by rw [e0]; exact rmk_0 (hr.sam hs1 (by decide)) hz) (by rw [ctB_z hz]; rfl)
      · refine brN.mf (fun c => ?_) ?_
        · exact absurd ((nI_leI (a := 160) (by omega) (by omega)).mp c) (by omega)
        · refine wrZ.mk x rfl (by omega) (by omega) isB_0 (nmI.mk ?_)
          rw [nI_1]
          refine ih (x + 1) _ (by omega) (by omega) (hs1.tr (sam.cs (by decide))) (fun j hj => ?_)
          rw [cset_eq, upd_ap]
          by_cases e2 : j = x
          · rw [if_pos e2]
          · rw [if_neg e2]; exact hz j (by omega)
  unfold wp_X3_markAll
  exact ⟨161, lp1 161 0 s (by omega) (by omega) sam.rf (fun j hj => by omega)⟩
theorem clear_spec {post : CS → Prop} (hp : ∀ s', sam [12] s s' → (∀ x, x < 160 → s' 12 x = 0) → post s') : wp_X3_clear s post := by
  have lp1 : ∀ (f x : Nat) (s1 : CS), x ≤ 160 → 160 < x + f → sam [12] s s1 → (∀ j, j < x → s1 12 j = 0) → lp_X3_clear_2 post f (nI x) s1 := by
    intro f
    induction f with
    | zero => intro x s1 a b; omega
    | succ f ih =>
      intro x s1 hx hf hs1 hz
      unfold lp_X3_clear_2
      by_cases e : x = 160
      · subst e
        exact brN.mt (by decide) (hp s1 hs1 hz)
      · refine brN.mf (fun c => ?_) ?_
        · exact absurd ((nI_leI (a := 160) (by omega) (by omega)).mp c) (by omega)
        · refine wrZ.mk x rfl (by omega) (by omega) isB_0 (nmI.mk ?_)
          rw [nI_1]
          refine ih (x + 1) _ (by omega) (by omega) (hs1.tr (sam.cs (by decide))) (fun j hj => ?_)
          rw [cset_eq, upd_ap]
          by_cases e2 : j = x
          · rw [if_pos e2]
          · rw [if_neg e2]; exact hz j (by omega)
  unfold wp_X3_clear
  exact ⟨161, lp1 161 0 s (by omega) (by omega) sam.rf (fun j hj => by omega)⟩
theorem freeHandle_spec (H : MR C V s g n rl lv rt sd us sw) {post : Int32 → CS → Prop} (h0 : frH lv V = none → post (-1) s) (h1 : ∀ h, frH lv V = some h → h < V → post (nI h) s) : wp_X3_freeHandle s post := by
  obtain ⟨⟨hC, hV⟩, hw, hrt, hr, hlv, hro, -, h2, -⟩ := id H
  have lp : ∀ (f h : Nat), h ≤ V → V < h + f → (∀ j, j < h → lv j = true) → lp_X3_freeHandle_2 post f (nI h) s := by
    intro f
    induction f with
    | zero => intro h a b; omega
    | succ f ih =>
      intro h hh hf hj
      unfold lp_X3_freeHandle_2
      refine nmI.mk ?_
      rw [h2]
      refine brN.mk (fun c => nmI.mk ?_) (fun c => ?_)
      · have e : V ≤ h := (nI_leI (by omega) (by omega)).mp c
        exact brN.mt c (h0 (frH_none (fun j hjV => hj j (by omega))))
      · have hhV : h < V := by
          rcases Nat.lt_or_ge h V with q | q
          · exact q
          · exact absurd (nI_le q (by omega)) c
        refine rdA.mk h rfl (by omega) (by omega) ?_
        rw [hlv h hhV]
        refine brN.mk (fun c2 => nmI.mk (brN.mf c (h1 h (frH_some hhV (bI_0.mp c2) hj) hhV))) (fun c2 => ?_)
        refine nmI.mk ?_
        rw [nI_1]
        refine ih (h + 1) (by omega) (by omega) (fun j hj1 => ?_)
        by_cases e : j = h
        · rw [e]
          cases hb : lv h with
          | true => rfl
          | false => rw [hb] at c2; exact absurd rfl c2
        · exact hj j (by omega)
  unfold wp_X3_freeHandle
  exact ⟨V + 1, lp (V + 1) 0 (by omega) (by omega) (fun j hj => by omega)⟩
theorem MR_us {us' : Nat} {sw' : Int32} {s' : CS} (H : MR C V s g n rl lv rt sd us sw) (hs : sam [4, 5, 11, 13, 14] s s') (h4 : s' 4 0 = nI us') (h5 : s' 5 0 = sw') (hu : us' ≤ C) : MR C V s' g n rl lv rt sd us' sw' := by
  obtain ⟨a1, a2, a3, a4, a5, a6, a7, a8, a9, a10, a11, a12, a13⟩ := H
  refine ⟨a1, a2, a3, a4.sam hs (by decide), ?_, ?_, ?_, ?_, ?_, h4, h5, hu, a13⟩
  · rw [hs.at 15]; exact a5
  · rw [hs.at 16]; exact a6
  · rw [hs.at 1]; exact a7
  · rw [hs.at 2]; exact a8
  · rw [hs.at 3]; exact a9
theorem takes_spec (H : MR C V s g n rl lv rt sd us sw) {m : Nat} (hm : m ≤ 100) {post : Int32 → CS → Prop}
    (h1 : us + m ≤ C → ∀ s', MR C V s' g n rl lv rt sd (us + m) sw → sam [4] s s' → post 1 s')
    (h2 : ¬ us + m ≤ C → ∀ s' , sam [4, 5, 11, 13, 14] s s' → RMK 11 s' rl (liv g lv rt V) (mkM g lv rt V) → ctB (s' 11) 160 = lvc g lv rt V → (lvc g lv rt V + m ≤ C → MR C V s' g n rl lv rt sd (lvc g lv rt V + m) (sw + 1) → post 1 s') ∧ (¬ lvc g lv rt V + m ≤ C → MR C V s' g n rl lv rt sd (lvc g lv rt V) (sw + 1) → post 0 s')) : wp_X3_takes (nI m) s post := by
  obtain ⟨⟨hC, hV⟩, hw, hrt, hr, hlv, hro, e1, e2, e3, e4, e5, hus, hlc⟩ := id H
  unfold wp_X3_takes
  refine nmI.mk (nmI.mk (nmI.mk ?_))
  rw [e4, e1, nI_add]
  refine brN.mk (fun c => ?_) (fun c => ?_)
  · have c' : us + m ≤ C := (nI_leI (by omega) (by omega)).mp c
    refine nmI.mk (nmI.mk (nmI.mk (brN.mt ?_ (nmI.mk (nmI.mk (stF.mk (h1 c' _ (MR_us H (sam.cs (by decide)) ?_ ?_ c') (sam.cs (by decide)))))))))
    · rw [nI_add]; exact c
    · rw [cset_eq, nI_add]
    · rw [cset_ne _ _ (by decide)]; exact e5
  · have c' : ¬ us + m ≤ C := fun q => c (nI_le q (by omega))
    refine markAll_spec H (fun s1 hs1 hm1 hc1 => stF.mk (nmI.mk (nmI.mk (stF.mk ?_))))
    have t4 : cset (cset s1 4 (fun _ => nI (lvc g lv rt V))) 5 (fun _ => cset s1 4 (fun _ => nI (lvc g lv rt V)) 5 0 + 1) 4 0 = nI (lvc g lv rt V) := by rw [cset_ne _ _ (by decide), cset_eq]
    have t5 : cset (cset s1 4 (fun _ => nI (lvc g lv rt V))) 5 (fun _ => cset s1 4 (fun _ => nI (lvc g lv rt V)) 5 0 + 1) 5 0 = sw + 1 := by rw [cset_eq, cset_ne _ _ (by decide), hs1.at 5, e5]
    have ts : sam [4, 5, 11, 13, 14] s (cset (cset s1 4 (fun _ => nI (lvc g lv rt V))) 5 (fun _ => cset s1 4 (fun _ => nI (lvc g lv rt V)) 5 0 + 1)) := ((hs1.up (by decide)).tr (sam.cs (by decide))).tr (sam.cs (by decide))
    have t11 : cset (cset s1 4 (fun _ => nI (lvc g lv rt V))) 5 (fun _ => cset s1 4 (fun _ => nI (lvc g lv rt V)) 5 0 + 1) 11 = s1 11 := by rw [cset_ne _ _ (by decide), cset_ne _ _ (by decide)]
    generalize cset (cset s1 4 (fun _ => nI (lvc g lv rt V))) 5 (fun _ => cset s1 4 (fun _ => nI (lvc g lv rt V)) 5 0 + 1) = s2 at t4 t5 ts t11 ⊢
    refine nmI.mk (nmI.mk (nmI.mk ?_))
    rw [t4, ts.at 1, e1, nI_add]
    refine brN.mk (fun c2 => ?_) (fun c2 => ?_)
    · have c2' : lvc g lv rt V + m ≤ C := (nI_leI (by omega) (by omega)).mp c2
      refine nmI.mk (nmI.mk (stF.mk ?_))
      rw [nI_add]
      have us' : sam [4, 5, 11, 13, 14] s (cset s2 4 (fun _ => nI (lvc g lv rt V + m))) := ts.tr (sam.cs (by decide))
      have u11 : cset s2 4 (fun _ => nI (lvc g lv rt V + m)) 11 = s1 11 := by rw [cset_ne _ _ (by decide), t11]
      refine (h2 c' _ us' (by unfold RMK at hm1 ⊢; rw [u11]; exact hm1) (by rw [u11]; exact hc1)).1 c2' (MR_us H us' (by rw [cset_eq]) (by rw [cset_ne _ _ (by decide)]; exact t5) c2')
    · have c2' : ¬ lvc g lv rt V + m ≤ C := fun q => c2 (nI_le q (by omega))
      exact (h2 c' s2 ts (by unfold RMK at hm1 ⊢; rw [t11]; exact hm1) (by rw [t11]; exact hc1)).2 c2' (MR_us H ts t4 t5 hlc)
end StateM
