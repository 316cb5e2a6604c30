/-! the class's state against the log: handles, sweep -/
/-- ids in trees of live handles below V -/
def liv (g : LG) (lv : Nat → Bool) (rt : Nat → Nat) (V : Nat) : Nat → Prop := fun j => ∃ h, h < V ∧ lv h = true ∧ j ∈ nd g (rt h)
def mkl (g : LG) (lv : Nat → Bool) (rt : Nat → Nat) : Nat → List Nat
  | 0 => []
  | h + 1 => if lv h = true then mkl g lv rt h ++ (nd g (rt h)).filter (fun j => !decide (j ∈ mkl g lv rt h)) else mkl g lv rt h
def mkM (g : LG) (lv : Nat → Bool) (rt : Nat → Nat) (h : Nat) : Nat → Bool := fun j => decide (j ∈ mkl g lv rt h)
def lvc (g : LG) (lv : Nat → Bool) (rt : Nat → Nat) (V : Nat) : Nat := (mkl g lv rt V).length
theorem mkl_mem {g : LG} {lv : Nat → Bool} {rt : Nat → Nat} : ∀ {V j : Nat}, j ∈ mkl g lv rt V ↔ liv g lv rt V j := by
  intro V
  induction V with
  | zero => intro j; simp [mkl, liv]
  | succ V ih =>
    intro j
    rw [mkl]
    by_cases hl : lv V = true
    · rw [if_pos hl, List.mem_append, List.mem_filter]
      constructor
      · rintro (h | ⟨h, -⟩)
        · obtain ⟨a, b, c, d⟩ := ih.mp h; exact ⟨a, by omega, c, d⟩
        · exact ⟨V, by omega, hl, h⟩
      · rintro ⟨h, h1, h2, h3⟩
        by_cases hm : j ∈ mkl g lv rt V
        · exact Or.inl hm
        · by_cases e : h = V
          · subst e; exact Or.inr ⟨h3, by simp [hm]⟩
          · exact Or.inl (ih.mpr ⟨h, by omega, h2, h3⟩)
    · rw [if_neg hl, ih]
      constructor
      · rintro ⟨h, h1, h2, h3⟩; exact ⟨h, by omega, h2, h3⟩
      · rintro ⟨h, h1, h2, h3⟩
        have : h ≠ V := fun e => hl (by rw [← e]; exact h2)
        exact ⟨h, by omega, h2, h3⟩
theorem mkl_nodup {g : LG} {n : Nat} (hw : wfG g n) {lv : Nat → Bool} {rt : Nat → Nat} : ∀ {V : Nat}, (∀ h, h < V → lv h = true → rt h ≤ n) → (mkl g lv rt V).Nodup := by
  intro V
  induction V with
  | zero => intro _; exact List.Pairwise.nil
  | succ V ih =>
    intro hrt
    rw [mkl]
    have h1 := ih (fun h hh => hrt h (by omega))
    by_cases hl : lv V = true
    · rw [if_pos hl, List.nodup_append]
      refine ⟨h1, (nd_nodup hw (hrt V (by omega) hl)).sublist List.filter_sublist, fun a ha b hb e => ?_⟩
      have := (List.mem_filter.mp hb).2
      subst e; simp [ha] at this
    · rw [if_neg hl]; exact h1
theorem mkM_succ {g : LG} {lv : Nat → Bool} {rt : Nat → Nat} {h : Nat} (hl : lv h = true) : mkM g lv rt (h + 1) = mu (mkM g lv rt h) (nd g (rt h)) := by
  funext j
  unfold mkM mu
  rw [mkl, if_pos hl]
  by_cases hm : j ∈ mkl g lv rt h <;> by_cases hd : j ∈ nd g (rt h) <;> simp [hm, hd]
theorem mkM_clo {g : LG} {n : Nat} (hw : wfG g n) {lv : Nat → Bool} {rt : Nat → Nat} {V : Nat} (hrt : ∀ h, h < V → lv h = true → rt h ≤ n) : clo g (mkM g lv rt V) := by
  intro j hj
  unfold mkM at hj ⊢
  rw [decide_eq_true_iff] at hj
  obtain ⟨h, h1, h2, h3⟩ := mkl_mem.mp hj
  refine ⟨fun e => ?_, fun e => ?_⟩
  · rw [decide_eq_true_iff]; exact mkl_mem.mpr ⟨h, h1, h2, nd_left hw (hrt h h1 h2) h3 e⟩
  · rw [decide_eq_true_iff]; exact mkl_mem.mpr ⟨h, h1, h2, nd_right hw (hrt h h1 h2) h3 e⟩
/-- the class's state -/
def CR (C V : Nat) (s : CS) (g : LG) (n : Nat) (pl : Nat → Nat) (lv : Nat → Bool) (rt : Nat → Nat) (sd : Int32) (us : Nat) (sw : Int32) : Prop :=
  (1 ≤ C ∧ C ≤ 40) ∧ (1 ≤ V ∧ V ≤ 8) ∧ wfG g n ∧ (∀ h, h < V → lv h = true → rt h ≤ n) ∧ repC C s g pl (liv g lv rt V) ∧ (∀ h, h < V → s 12 h = bI (lv h)) ∧ (∀ h, h < V → lv h = true → s 13 h = nI (pl (rt h))) ∧ s 8 0 = 0 ∧ s 14 0 = sd ∧ ctB (s 7) (C + 1) = us ∧ us ≤ C ∧ s 15 0 = sw
theorem liv_n {g : LG} {n V : Nat} {lv : Nat → Bool} {rt : Nat → Nat} (hrt : ∀ h, h < V → lv h = true → rt h ≤ n) : ∀ i, liv g lv rt V i → i ≤ n := by
  rintro i ⟨h, h1, h2, h3⟩
  have := nd_le h3; have := hrt h h1 h2; omega
theorem liv_rt {g : LG} {n V : Nat} (hw : wfG g n) {lv : Nat → Bool} {rt : Nat → Nat} (hrt : ∀ h, h < V → lv h = true → rt h ≤ n) {h : Nat} (h1 : h < V) (h2 : lv h = true) : rt h = 0 ∨ liv g lv rt V (rt h) := by
  rcases Nat.eq_zero_or_pos (rt h) with e | e
  · exact Or.inl e
  · exact Or.inr ⟨h, h1, h2, nd_self hw e (hrt h h1 h2)⟩
section StateC
variable {C V n : Nat} {s : CS} {g : LG} {pl : Nat → Nat} {lv : Nat → Bool} {rt : Nat → Nat} {sd sw : Int32} {us : Nat}
theorem CR.size (H : CR C V s g n pl lv rt sd us sw) {h : Nat} (h1 : h < V) (h2 : lv h = true) : (nd g (rt h)).length ≤ C := by
  obtain ⟨-, -, hw, hrt, hr, -⟩ := H
  exact hr.len (nd_nodup hw (hrt h h1 h2)) (fun x hx => ⟨h, h1, h2, hx⟩)
theorem CR.lvc (H : CR C V s g n pl lv rt sd us sw) : lvc g lv rt V ≤ C := by
  obtain ⟨-, -, hw, hrt, hr, -⟩ := H
  exact hr.len (mkl_nodup hw hrt) (fun x hx => mkl_mem.mp hx)
theorem CR.sam {J : List Nat} {s' : CS} (H : CR C V s g n pl lv rt sd us sw) (hs : sam J s s') (hJ : ∀ j ∈ J, j = 9 ∨ j = 10 ∨ j = 11) : CR C V s' g n pl lv rt sd us sw := by
  obtain ⟨a1, a2, a3, a4, a5, a6, a7, a8, a9, a10, a11, a12⟩ := H
  have e : ∀ j, (j ≠ 9 ∧ j ≠ 10 ∧ j ≠ 11) → s' j = s j := fun j hj => hs j (fun q => by have := hJ j q; omega)
  refine ⟨a1, a2, a3, a4, a5.sam hs (fun j hj => by have := hJ j hj; omega), ?_, ?_, ?_, ?_, ?_, a11, ?_⟩
  · rw [e 12 (by decide)]; exact a6
  · rw [e 13 (by decide)]; exact a7
  · rw [e 8 (by decide)]; exact a8
  · rw [e 14 (by decide)]; exact a9
  · rw [e 7 (by decide)]; exact a10
  · rw [e 15 (by decide)]; exact a12
theorem isLive_spec (H : CR C V s g n pl lv rt sd us sw) {x : Int32} {post : Int32 → CS → Prop} (hy : ∀ h, h < V → x = nI h → lv h = true → post 1 s) (hn : (¬ ∃ h, h < V ∧ x = nI h ∧ lv h = true) → post 0 s) : wp_X2_isLive C V x s post := by
  obtain ⟨-, ⟨hV1, hV⟩, -, -, -, hlv, -⟩ := H
  unfold wp_X2_isLive
  rcases pk_ix x (n := V) (by omega) with h | h | ⟨h, hh, e⟩
  · refine brN.mt h (hn ?_)
    rintro ⟨j, j1, j2, -⟩; rw [j2] at h; exact absurd h (nI_pos (by omega))
  · refine brN.mk (fun h' => ?_) (fun _ => nmI.mk (brN.mt h (hn ?_)))
    · refine hn ?_
      rintro ⟨j, j1, j2, -⟩; rw [j2] at h'; exact absurd h' (nI_pos (by omega))
    · rintro ⟨j, j1, j2, -⟩; rw [j2] at h; exact absurd ((nI_leI (by omega) (by omega)).mp h) (by omega)
  · refine brN.mf (by rw [e]; exact nI_pos (by omega)) (nmI.mk (brN.mf (by rw [e]; exact nI_ge hh (by omega)) ?_))
    refine rdA.mk h e hh (by omega) ?_
    rw [hlv h hh]
    refine brN.mk (fun c => ?_) (fun c => ?_)
    · refine hn ?_
      rintro ⟨j, j1, j2, j3⟩
      have : j = h := (nI_eq (by omega) (by omega)).mp (by rw [← j2, ← e])
      rw [this, bI_0.mp c] at j3; cases j3
    · refine hy h hh e ?_
      cases hb : lv h with
      | true => rfl
      | false => rw [hb] at c; exact absurd rfl c
theorem reachLive_spec (H : CR C V s g n pl lv rt sd us sw) {post : Int32 → CS → Prop} (hp : ∀ s', sam [8, 9] s s' → RCH C s' pl (liv g lv rt V) (mkM g lv rt V) → ctB (s' 8) (C + 1) = lvc g lv rt V → post (nI (lvc g lv rt V)) s') : wp_X2_reachLive C V s post := by
  have hsize := fun {h} => H.size (h := h)
  obtain ⟨⟨hC1, hC⟩, ⟨hV1, hV⟩, hw, hrt, hr, hlv, hro, h80, -⟩ := H
  unfold wp_X2_reachLive
  refine forget_spec hr hC h80 (fun s1 hs1 hm1 hc1 => ?_)
  have lp : ∀ (f h : Nat) (s2 : CS), h ≤ V → V < h + f → sam [8, 9] s s2 → RCH C s2 pl (liv g lv rt V) (mkM g lv rt h) → ctB (s2 8) (C + 1) = lvc g lv rt h → lp_X2_reachLive_11 C V post f (nI (lvc g lv rt h)) (nI h) s2 := by
    intro f
    induction f with
    | zero => intro h s2 h1 h2; omega
    | succ f ih =>
      intro h s2 h1 h2 hs2 hm2 hc2
      unfold lp_X2_reachLive_11
      refine nmI.mk (brN.mk (fun c => ?_) (fun c => ?_))
      · have e : V ≤ h := (nI_leI (by omega) (by omega)).mp c
        have e : h = V := by omega
        subst e
        exact hp s2 hs2 hm2 hc2
      · have hh : h < V := by
          rcases Nat.lt_or_ge h V with q | q
          · exact q
          · exact absurd (nI_le q (by omega)) c
        refine rdA.mk h rfl hh (by omega) ?_
        rw [hs2.at 12, hlv h hh]
        refine brN.mk (fun c2 => ?_) (fun c2 => ?_)
        · have hb := bI_0.mp c2
          have e1 : lvc g lv rt (h + 1) = lvc g lv rt h := by unfold lvc; rw [mkl, if_neg (by rw [hb]; decide)]
          have e2 : mkM g lv rt (h + 1) = mkM g lv rt h := by unfold mkM; rw [mkl, if_neg (by rw [hb]; decide)]
          refine nmI.mk ?_
          rw [nI_1, ← e1]
          exact ih (h + 1) s2 (by omega) (by omega) hs2 (by rw [e2]; exact hm2) (by rw [e1]; exact hc2)
        · have hb : lv h = true := by
            cases hb : lv h with
            | true => rfl
            | false => rw [hb] at c2; exact absurd rfl c2
          refine rdA.mk h rfl hh (by omega) ?_
          rw [hs2.at 13, hro h hh hb]
          have hr2 := hr.sam hs2 (by decide)
          have e2 := mkM_succ (g := g) (rt := rt) hb
          have e1 : lvc g lv rt (h + 1) = lvc g lv rt h + nwc g (mkM g lv rt h) (rt h) := by
            unfold lvc nwc; rw [mkl, if_pos hb, List.length_append]; rfl
          refine reach_spec hr2 hw hC hm2 (mkM_clo hw (fun j hj => hrt j (by omega))) (liv_rt hw hrt hh hb) (hrt h hh hb) (hsize hh hb) (fun s3 hs3 hm3 hc3 => ?_)
          refine nmI.mk (nmI.mk ?_)
          rw [nI_add, nI_1, ← e1]
          exact ih (h + 1) s3 (by omega) (by omega) (hs2.tr hs3) (by rw [e2]; exact hm3) (by rw [hc3, hc2, e1])
  refine ⟨V + 1, ?_⟩
  have e0 : mkM g lv rt 0 = fun _ => false := by funext j; simp [mkM, mkl]
  have := lp (V + 1) 0 s1 (by omega) (by omega) (hs1.up (by decide)) (by rw [e0]; exact hm1) (by rw [hc1]; rfl)
  exact this
theorem keep_spec (hC : C ≤ 40) (h8 : s 8 0 = 0) (h7 : s 7 0 = 0) (hB : ∀ p, p ≤ C → isB (s 8 p)) {post : CS → Prop} (hp : ∀ s', sam [6, 7] s s' → (∀ p, p ≤ C → s' 7 p = s 8 p) → s' 6 0 = nI (ctB (s 8) (C + 1)) → post s') : wp_X0_keepReached C V s post := by
  have lp : ∀ (f p : Nat) (s1 : CS), 1 ≤ p → p ≤ C + 1 → C + 1 < p + f → sam [6, 7] s s1 → (∀ j, j < p → j ≤ C → s1 7 j = s 8 j) → s1 6 0 = nI (ctB (s 8) p) → lp_X0_keepReached_7 C V post f (nI p) s1 := by
    intro f
    induction f with
    | zero => intro p s1 h1 h2 h3; omega
    | succ f ih =>
      intro p s1 h1 h2 h3 hs ht hu
      unfold lp_X0_keepReached_7
      refine nmI.mk (brN.mk (fun c => ?_) (fun c => ?_))
      · have e : C < p := (nI_ltI (by omega) (by omega)).mp c
        have e : p = C + 1 := by omega
        subst e
        exact hp s1 hs (fun q hq => ht q (by omega) hq) hu
      · have hpC : p ≤ C := by
          rcases Nat.lt_or_ge C p with q | q
          · exact absurd (nI_lt q (by omega)) c
          · exact q
        have e8 : s1 8 = s 8 := hs.at 8
        refine rdA.mk p rfl (by omega) (by omega) ?_
        rw [e8]
        refine wrZ.mk p rfl (by omega) (by omega) (hB p hpC) (nmI.mk ?_)
        have e6 : cset s1 7 (upd (s1 7) p (s 8 p)) 6 0 = nI (ctB (s 8) p) := by rw [cset_ne _ _ (by decide), hu]
        rw [e6]
        have e8' : cset s1 7 (upd (s1 7) p (s 8 p)) 8 = s 8 := by rw [cset_ne _ _ (by decide), e8]
        refine rdA.mk p rfl (by omega) (by omega) ?_
        rw [e8']
        have hs2 : sam [6, 7] s (cset s1 7 (upd (s1 7) p (s 8 p))) := hs.tr (sam.cs (by decide))
        have ht2 : ∀ j, j < p + 1 → j ≤ C → cset s1 7 (upd (s1 7) p (s 8 p)) 7 j = s 8 j := by
          intro j hj hjC
          rw [cset_eq, upd_ap]
          by_cases e : j = p
          · rw [if_pos e, e]
          · rw [if_neg e]; exact ht j (by omega) hjC
        generalize cset s1 7 (upd (s1 7) p (s 8 p)) = s2 at hs2 ht2 ⊢
        refine brN.mk (fun c2 => ?_) (fun c2 => ?_)
        · refine nmI.mk (stF.mk (nmI.mk ?_))
          rw [nI_1]
          refine ih (p + 1) _ (by omega) (by omega) (by omega) (hs2.tr (sam.cs (by decide))) (fun j hj hjC => by rw [cset_ne _ _ (by decide)]; exact ht2 j hj hjC) ?_
          rw [cset_eq, ctB, c2]
          simp
        · have e1 := (hB p hpC).resolve_left c2
          refine nmI.mk (stF.mk (nmI.mk ?_))
          rw [nI_1, nI_1]
          refine ih (p + 1) _ (by omega) (by omega) (by omega) (hs2.tr (sam.cs (by decide))) (fun j hj hjC => by rw [cset_ne _ _ (by decide)]; exact ht2 j hj hjC) ?_
          rw [cset_eq, ctB, if_pos e1]
  unfold wp_X0_keepReached
  refine stF.mk ⟨C + 1, lp (C + 1) 1 _ (Nat.le_refl _) (by omega) (by omega) (sam.cs (by decide)) (fun j hj _ => ?_) ?_⟩
  · rw [cset_ne _ _ (by decide), show j = 0 by omega, h7, h8]
  · rw [cset_eq]; simp [ctB, h8]; rfl
theorem hasRoom_spec {m : Nat} (hC : C ≤ 40) (hm : m ≤ 100) (hu : s 6 0 = nI us) (hus : us ≤ C) {post : Int32 → CS → Prop} (hy : us + m ≤ C → post 1 s) (hn : ¬ us + m ≤ C → post 0 s) : wp_X0_hasRoom C V (nI m) s post := by
  unfold wp_X0_hasRoom
  refine nmI.mk (nmI.mk (nmI.mk ?_))
  rw [hu, nI_add]
  refine brN.mk (fun c => hn ?_) (fun c => hy ?_)
  · have := (nI_ltI (by omega) (by omega)).mp c; omega
  · rcases Nat.lt_or_ge C (us + m) with q | q
    · exact absurd (nI_lt q (by omega)) c
    · exact q
theorem makeRoom_spec (H : CR C V s g n pl lv rt sd us sw) {m : Nat} (hm : m ≤ 100) {post : Int32 → CS → Prop} (h1 : us + m ≤ C → post 1 s)
    (h2 : ¬ us + m ≤ C → ∀ s', CR C V s' g n pl lv rt sd (lvc g lv rt V) (sw + 1) → sam [6, 7, 8, 9, 15] s s' → post (if lvc g lv rt V + m ≤ C then 1 else 0) s') : wp_X2_makeRoom C V (nI m) s post := by
  have Hc := H.lvc
  obtain ⟨⟨hC1, hC⟩, ⟨hV1, hV⟩, hw, hrt, hr, hlv, hro, h80, hsd, hus, husC, hsw⟩ := id H
  unfold wp_X2_makeRoom
  have hu6 : s 6 0 = nI us := by rw [← hus]; exact hr.2.2.2.2.2.2
  refine hasRoom_spec hC hm hu6 husC (fun c => brN.mf (by decide) (h1 c)) (fun c => brN.mt rfl ?_)
  refine reachLive_spec H (fun s1 hs1 hm1 hc1 => ?_)
  have hr1 := hr.sam hs1 (by decide)
  have hr1' := hr1
  refine keep_spec hC (RCH.z hr1 hm1) hr1.2.2.2.2.1 hm1.1 (fun s2 hs2 ht2 hu2 => ?_)
  rw [hc1] at hu2
  refine nmI.mk (nmI.mk (stF.mk ?_))
  rw [hs2.at 15, hs1.at 15, hsw]
  have hs3 : sam [6, 7, 8, 9, 15] s (cset s2 15 (fun _ => sw + 1)) := ((hs1.up (by decide)).tr (hs2.up (by decide))).tr (sam.cs (by decide))
  have hct : ctB (cset s2 15 (fun _ => sw + 1) 7) (C + 1) = lvc g lv rt V := by
    rw [cset_ne _ _ (by decide), ← hc1]
    exact ctB_cong (fun j hj => ht2 j (by omega))
  have hx : ∀ j, j ∉ [6, 7, 15] → cset s2 15 (fun _ => sw + 1) j = s1 j := by
    intro j hj
    simp at hj
    rw [cset_ne _ _ hj.2.2, hs2 j (by simp [hj.1, hj.2.1])]
  have H3 : CR C V (cset s2 15 (fun _ => sw + 1)) g n pl lv rt sd (lvc g lv rt V) (sw + 1) := by
    refine ⟨⟨hC1, hC⟩, ⟨hV1, hV⟩, hw, hrt, ?_, ?_, ?_, ?_, ?_, hct, Hc, by rw [cset_eq]⟩
    · obtain ⟨b1, b2, b3, b4, b5, b6, b7⟩ := hr1
      refine ⟨b1, fun i hi => ?_, b3, by rw [hx 5 (by decide)]; exact b4, ?_, fun p hp => ?_, ?_⟩
      · obtain ⟨i0, ⟨p1, p2, p3, p4, p5, p6, p7, p8⟩, il, ir⟩ := b2 i hi
        refine ⟨i0, ⟨p1, ?_, ?_, ?_, ?_, ?_, ?_, ?_⟩, il, ir⟩
        · rw [cset_ne _ _ (by decide), ht2 _ p1.2]
          refine (hm1.2.1 i hi).mpr ?_
          unfold mkM; rw [decide_eq_true_iff]; exact mkl_mem.mpr hi
        · rw [hx 0 (by decide)]; exact p3
        · rw [hx 1 (by decide)]; exact p4
        · rw [hx 2 (by decide)]; exact p5
        · rw [hx 3 (by decide)]; exact p6
        · rw [hx 4 (by decide)]; exact p7
        · rw [hx 5 (by decide)]; exact p8
      · rw [cset_ne _ _ (by decide), ht2 0 (Nat.zero_le _)]; exact RCH.z hr1' hm1
      · rw [cset_ne _ _ (by decide), ht2 p hp]; exact hm1.1 p hp
      · rw [hct, cset_ne _ _ (by decide), hu2]
    · rw [hx 12 (by decide), hs1.at 12]; exact hlv
    · rw [hx 13 (by decide), hs1.at 13]; exact hro
    · rw [hx 8 (by decide)]; exact RCH.z hr1' hm1
    · rw [hx 14 (by decide), hs1.at 14]; exact hsd
  have hu3 : cset s2 15 (fun _ => sw + 1) 6 0 = nI (lvc g lv rt V) := by rw [cset_ne _ _ (by decide)]; exact hu2
  have := h2 c _ H3 hs3
  refine hasRoom_spec hC hm hu3 Hc (fun c => ?_) (fun c => ?_)
  · rw [if_pos c] at this; exact this
  · rw [if_neg c] at this; exact this
end StateC
