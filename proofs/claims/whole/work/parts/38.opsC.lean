/-! the class's updates against the log -/
/-- log, number of nodes, live, roots, seed, used, sweeps -/
abbrev AS : Type := LG × Nat × (Nat → Bool) × (Nat → Nat) × Int32 × Nat × Int32
def CRa (C V : Nat) (s : CS) (pl : Nat → Nat) (A : AS) : Prop := CR C V s A.1 A.2.1 pl A.2.2.1 A.2.2.2.1 A.2.2.2.2.1 A.2.2.2.2.2.1 A.2.2.2.2.2.2
def frH (lv : Nat → Bool) (V : Nat) : Option Nat := (List.range V).find? (fun h => !lv h)
theorem frH_some {lv : Nat → Bool} {V h : Nat} (hh : h < V) (hl : lv h = false) (hj : ∀ j, j < h → lv j = true) : frH lv V = some h := by
  unfold frH
  rw [List.find?_range_eq_some]
  exact ⟨by simp [hl], by simp [hh], fun j h1 => by simp [hj j h1]⟩
theorem frH_none {lv : Nat → Bool} {V : Nat} (hj : ∀ j, j < V → lv j = true) : frH lv V = none := by
  unfold frH
  rw [List.find?_eq_none]
  intro x hx; simp [hj x (List.mem_range.mp hx)]
/-- an update with m fresh nodes: its answer and the state behind it -/
def aup (C V : Nat) (g : LG) (n : Nat) (lv : Nat → Bool) (rt : Nat → Nat) (sd : Int32) (us : Nat) (sw : Int32) (m : Nat) (g' : LG) (n' t : Nat) (sd' : Int32) : Int32 × AS :=
  match frH lv V with
  | none => (-2, (g, n, lv, rt, sd, us, sw))
  | some h => if us + m ≤ C then (nI h, (g', n', upn lv h true, upn rt h t, sd', us + m, sw)) else if lvc g lv rt V + m ≤ C then (nI h, (g', n', upn lv h true, upn rt h t, sd', lvc g lv rt V + m, sw + 1)) else (-3, (g, n, lv, rt, sd, lvc g lv rt V, sw + 1))
theorem repC_sub {C : Nat} {s : CS} {g : LG} {pl : Nat → Nat} {S S' : Nat → Prop} (h : repC C s g pl S) (hs : ∀ i, S' i → S i) (hc : ∀ i, S' i → (gL g i ≠ 0 → S' (gL g i)) ∧ (gR g i ≠ 0 → S' (gR g i))) : repC C s g pl S' := by
  obtain ⟨h1, h2, h3, h4, h5, h6, h7⟩ := h
  refine ⟨h1, fun i hi => ?_, fun i j hi hj e => h3 i j (hs i hi) (hs j hj) e, h4, h5, h6, h7⟩
  obtain ⟨a, b, -, -⟩ := h2 i (hs i hi)
  exact ⟨a, b, (hc i hi).1, (hc i hi).2⟩
theorem liv_clo {g : LG} {n V : Nat} (hw : wfG g n) {lv : Nat → Bool} {rt : Nat → Nat} (hrt : ∀ h, h < V → lv h = true → rt h ≤ n) : ∀ i, liv g lv rt V i → (gL g i ≠ 0 → liv g lv rt V (gL g i)) ∧ (gR g i ≠ 0 → liv g lv rt V (gR g i)) := by
  rintro i ⟨h, h1, h2, h3⟩
  exact ⟨fun e => ⟨h, h1, h2, nd_left hw (hrt h h1 h2) h3 e⟩, fun e => ⟨h, h1, h2, nd_right hw (hrt h h1 h2) h3 e⟩⟩
section OpsC
variable {C V n : Nat} {s : CS} {g : LG} {pl : Nat → Nat} {lv : Nat → Bool} {rt : Nat → Nat} {sd sw : Int32} {us : Nat}
theorem open_spec (H : CR C V s g n pl lv rt sd us sw) {h : Nat} (hh : h < V) {s2 : CS} {g' : LG} {pl' : Nat → Nat} {n' t m : Nat} {sd' : Int32} (hr : repC C s2 g' pl' (Sup (liv g lv rt V) n n')) (hw' : wfG g' n') (ha : agr g g' n) (hn : n ≤ n') (ht : t ≤ n') (htS : t = 0 ∨ Sup (liv g lv rt V) n n' t) (hpx : plx pl pl' n)
    (hs : sam [0, 1, 2, 3, 4, 5, 6, 7, 11, 14] s s2) (hsd : s2 14 0 = sd') (hct : ctB (s2 7) (C + 1) = us + m) (hm : us + m ≤ C) {post : Int32 → CS → Prop} (hp : ∀ s3, CR C V s3 g' n' pl' (upn lv h true) (upn rt h t) sd' (us + m) sw → post (nI h) s3) : wp_X2_open C V (nI h) (nI (pl' t)) s2 post := by
  obtain ⟨⟨hC1, hC⟩, ⟨hV1, hV⟩, hw, hrt, -, hlv, hro, h80, -, -, -, hsw⟩ := H
  unfold wp_X2_open
  refine wrZ.mk h rfl hh (by omega) isB_1 (wrA.mk h rfl hh (by omega) (hp _ ?_))
  have hrt' : ∀ j, j < V → upn lv h true j = true → upn rt h t j ≤ n' := by
    intro j hj hl
    by_cases e : j = h
    · rw [e, upn_eq]; exact ht
    · rw [upn_ne _ _ e] at hl ⊢; have := hrt j hj hl; omega
  have hsub : ∀ i, liv g' (upn lv h true) (upn rt h t) V i → Sup (liv g lv rt V) n n' i := by
    rintro i ⟨j, j1, j2, j3⟩
    by_cases e : j = h
    · rw [e, upn_eq] at j3
      have : t ≠ 0 := fun e0 => by rw [e0, nd_0] at j3; cases j3
      exact hr.nd hw' ht (htS.resolve_left this) i j3
    · rw [upn_ne _ _ e] at j2 j3
      rw [ha.nd (hrt j j1 j2)] at j3
      exact Or.inl ⟨j, j1, j2, j3⟩
  have hr' := repC_sub hr hsub (liv_clo hw' hrt')
  have hx : ∀ j, j ∉ [12, 13] → cset (cset s2 12 (upd (s2 12) h 1)) 13 (upd (cset s2 12 (upd (s2 12) h 1) 13) h (nI (pl' t))) j = s2 j := by
    intro j hj; simp at hj
    rw [cset_ne _ _ hj.2, cset_ne _ _ hj.1]
  refine ⟨⟨hC1, hC⟩, ⟨hV1, hV⟩, hw', hrt', hr'.sam (J := [12, 13]) (fun j hj => hx j hj) (by decide), fun j hj => ?_, fun j hj hl => ?_, ?_, ?_, ?_, hm, ?_⟩
  · rw [cset_ne _ _ (by decide), cset_eq, upd_ap]
    by_cases e : j = h
    · rw [if_pos e, e, upn_eq]; rfl
    · rw [if_neg e, upn_ne _ _ e, hs.at 12]; exact hlv j hj
  · rw [cset_eq, upd_ap]
    by_cases e : j = h
    · rw [if_pos e, e, upn_eq]
    · rw [if_neg e, upn_ne _ _ e, cset_ne _ _ (by decide), hs.at 13]
      rw [upn_ne _ _ e] at hl
      rw [hro j hj hl, hpx _ (hrt j hj hl)]
  · rw [hx 8 (by decide), hs.at 8]; exact h80
  · rw [hx 14 (by decide)]; exact hsd
  · rw [hx 7 (by decide)]; exact hct
  · rw [hx 15 (by decide), hs.at 15]; exact hsw
theorem handleFor_spec (H : CR C V s g n pl lv rt sd us sw) {m : Nat} (hm : m ≤ 100) {post : Int32 → CS → Prop} (h0 : frH lv V = none → post (-2) s)
    (h1 : ∀ h, frH lv V = some h → h < V → us + m ≤ C → post (nI h) s)
    (h2 : ∀ h, frH lv V = some h → h < V → ¬ us + m ≤ C → ∀ s', CR C V s' g n pl lv rt sd (lvc g lv rt V) (sw + 1) → sam [6, 7, 8, 9, 15] s s' → (lvc g lv rt V + m ≤ C → post (nI h) s') ∧ (¬ lvc g lv rt V + m ≤ C → post (-3) s')) : wp_X2_handleFor C V (nI m) s post := by
  obtain ⟨-, ⟨hV1, hV⟩, -, -, -, hlv, -⟩ := id H
  have lp : ∀ (f h : Nat), h ≤ V → V < h + f → (∀ j, j < h → lv j = true) → lp_X2_handleFor_2 C V post f (nI m) (nI h) s := by
    intro f
    induction f with
    | zero => intro h a b; omega
    | succ f ih =>
      intro h hh hf hj
      unfold lp_X2_handleFor_2
      refine nmI.mk (brN.mk (fun c => ?_) (fun c => ?_))
      · have e : V ≤ h := (nI_leI (by omega) (by omega)).mp c
        exact h0 (frH_none (fun j hjV => hj j (by omega)))
      · have hhV : h < V := by
          rcases Nat.lt_or_ge h V with q | q
          · exact q
          · exact absurd (nI_le q (by omega)) c
        refine rdA.mk h rfl hhV (by omega) ?_
        rw [hlv h hhV]
        refine brN.mk (fun c2 => ?_) (fun c2 => ?_)
        · have e := frH_some hhV (bI_0.mp c2) hj
          refine makeRoom_spec H hm (fun q => brN.mf (by decide) (h1 h e hhV q)) (fun q s' H' hs' => ?_)
          obtain ⟨a1, a2⟩ := h2 h e hhV q s' H' hs'
          by_cases q2 : lvc g lv rt V + m ≤ C
          · rw [if_pos q2]; exact brN.mf (by decide) (a1 q2)
          · rw [if_neg q2]; exact brN.mt rfl (a2 q2)
        · refine nmI.mk ?_
          rw [nI_1]
          refine ih (h + 1) (by omega) (by omega) (fun j hj1 => ?_)
          by_cases e : j = h
          · rw [e]
            cases hb : lv h with
            | true => rfl
            | false => rw [hb] at c2; exact absurd rfl c2
          · exact hj j (by omega)
  unfold wp_X2_handleFor
  exact ⟨V + 1, lp (V + 1) 0 (by omega) (by omega) (fun j hj => by omega)⟩
/-- an update behind its noting -/
theorem upd_spec (H : CR C V s g n pl lv rt sd us sw) {ns : List Nat} (hn : noted s pl ns) {m : Nat} (hm : m ≤ 100) {g' : LG} {n' t : Nat} {sd' : Int32} {B : Int32 → CS → Prop} {post : Int32 → CS → Prop}
    (hB : ∀ (h : Nat) (s1 : CS) (us1 : Nat) (sw1 : Int32), h < V → CR C V s1 g n pl lv rt sd us1 sw1 → noted s1 pl ns → us1 + m ≤ C → (∀ pl' s2, CR C V s2 g' n' pl' (upn lv h true) (upn rt h t) sd' (us1 + m) sw1 → post (nI h) s2) → B (nI h) s1)
    (hp : ∀ pl' s2, CRa C V s2 pl' (aup C V g n lv rt sd us sw m g' n' t sd').2 → post (aup C V g n lv rt sd us sw m g' n' t sd').1 s2) :
    wp_X2_handleFor C V (nI m) s (fun r u => brN (0 ≤ r) (B r u) (post r u)) := by
  obtain ⟨-, ⟨hV1, hV⟩, -⟩ := id H
  unfold aup at hp
  refine handleFor_spec H hm (fun e => ?_) (fun h e hh q => ?_) (fun h e hh q s' H' hs' => ⟨fun q2 => ?_, fun q2 => ?_⟩)
  · rw [e] at hp
    exact brN.mf (by decide) (hp pl s H)
  · rw [e] at hp
    simp only [if_pos q] at hp
    exact brN.mt (nI_pos' (by omega)) (hB h s us sw hh H hn q (fun pl' s2 h2 => hp pl' s2 h2))
  · rw [e] at hp
    simp only [if_neg q, if_pos q2] at hp
    exact brN.mt (nI_pos' (by omega)) (hB h s' _ _ hh H' (hn.sam (hs'.at 10) (hs'.at 11)) q2 (fun pl' s2 h2 => hp pl' s2 h2))
  · rw [e] at hp
    simp only [if_neg q, if_neg q2] at hp
    exact brN.mf (by decide) (hp pl s' H')
theorem cpo_top (k : Int32) : ∀ (is : List Nat) (g : LG) (n t : Nat), (cpo k is g n t).2 = if is = [] then t else n + is.length := by
  intro is
  induction is with
  | nil => intro g n t; rfl
  | cons i is ih =>
    intro g n t
    rw [cpo, ih]
    by_cases e : is = []
    · subst e; simp
    · simp [e]; omega
/-- copying over, then opening; m1 fresh nodes were made before -/
theorem over2_spec (H : CR C V s g n pl lv rt sd us sw) {h : Nat} (hh : h < V) {s1 : CS} {g1 : LG} {pl1 : Nat → Nat} {n1 m1 : Nat} {sd' : Int32} (hr1 : repC C s1 g1 pl1 (Sup (liv g lv rt V) n n1)) (ha1 : acG g1 n1) (hn1 : n ≤ n1) (hpx1 : plx pl pl1 n) (hs1 : sam [0, 1, 2, 3, 4, 5, 6, 7, 11, 14] s s1) (hc1 : ctB (s1 7) (C + 1) = us + m1) (hsd1 : s1 14 0 = sd')
    {ns : List Nat} (hn : noted s1 pl1 ns) (hS : ∀ i ∈ ns, liv g lv rt V i) {t0 : Nat} (ht0 : t0 = 0 ∨ Sup (liv g lv rt V) n n1 t0) (hu : us + m1 + ns.length ≤ C) {k : Int32}
    (hwf : wfG (cpo k ns.reverse g1 n1 t0).1 (n1 + ns.length) ∧ agr g (cpo k ns.reverse g1 n1 t0).1 n ∧ (cpo k ns.reverse g1 n1 t0).2 ≤ n1 + ns.length) {post : Int32 → CS → Prop}
    (hp : ∀ pl' s2, CR C V s2 (cpo k ns.reverse g1 n1 t0).1 (n1 + ns.length) pl' (upn lv h true) (upn rt h (cpo k ns.reverse g1 n1 t0).2) sd' (us + (m1 + ns.length)) sw → post (nI h) s2) :
    wp_X1_copyOver C V (nI (pl1 t0)) k s1 (fun r u => wp_X2_open C V (nI h) r u post) := by
  obtain ⟨⟨hC1, hC⟩, ⟨hV1, hV⟩, hw, hrt, hr, hlv, hro, h80, hsd, hus, husC, hsw⟩ := id H
  have hSn : ∀ i, Sup (liv g lv rt V) n n1 i → i ≤ n1 := by
    rintro i (q | q)
    · have := liv_n hrt i q; omega
    · exact q.2
  refine copyOver_spec hC1 hC hr1 ha1 hSn hn (fun i hi => Or.inl (hS i hi)) ht0 (by omega) (fun pl' s' a1 a2 a3 a4 => ?_)
  rw [Sup_tr _ hn1 (by omega)] at a1
  refine open_spec H hh a1 hwf.1 hwf.2.1 (by omega) hwf.2.2 ?_ (hpx1.tr a2 hn1) (hs1.tr (a3.up (by decide))) (by rw [a3.at 14]; exact hsd1) (m := m1 + ns.length) (by rw [a4, hc1]; omega) (by omega) (fun s3 h3 => hp pl' s3 h3)
  rw [cpo_top]
  by_cases e : ns.reverse = []
  · rw [if_pos e]
    refine ht0.imp id (fun q => ?_)
    rcases q with q | q
    · exact Or.inl q
    · exact Or.inr (by omega)
  · rw [if_neg e, List.length_reverse]
    have : ns.length ≠ 0 := fun q => e (by simp [List.length_eq_zero_iff.mp q])
    exact Or.inr (Or.inr (by omega))
theorem over_spec (H : CR C V s g n pl lv rt sd us sw) {h : Nat} (hh : h < V) {ns : List Nat} (hn : noted s pl ns) (hS : ∀ i ∈ ns, liv g lv rt V i) {t0 : Nat} (ht0 : t0 = 0 ∨ liv g lv rt V t0) (hu : us + ns.length ≤ C) {k : Int32}
    (hwf : wfG (cpo k ns.reverse g n t0).1 (n + ns.length) ∧ agr g (cpo k ns.reverse g n t0).1 n ∧ (cpo k ns.reverse g n t0).2 ≤ n + ns.length) {post : Int32 → CS → Prop}
    (hp : ∀ pl' s2, CR C V s2 (cpo k ns.reverse g n t0).1 (n + ns.length) pl' (upn lv h true) (upn rt h (cpo k ns.reverse g n t0).2) sd (us + ns.length) sw → post (nI h) s2) :
    wp_X1_copyOver C V (nI (pl t0)) k s (fun r u => wp_X2_open C V (nI h) r u post) := by
  obtain ⟨⟨hC1, hC⟩, ⟨hV1, hV⟩, hw, hrt, hr, hlv, hro, h80, hsd, hus, husC, hsw⟩ := id H
  refine over2_spec H hh (n1 := n) (m1 := 0) (by rw [Sup_rf]; exact hr) hw.ac (Nat.le_refl _) (plx.rf _ _) sam.rf (by omega) hsd hn hS (by rw [Sup_rf]; exact ht0) (by omega) hwf (fun pl' s2 h2 => hp pl' s2 (by rw [Nat.zero_add] at h2; exact h2))
theorem remove_spec (H : CR C V s g n pl lv rt sd us sw) {h : Nat} (h1 : h < V) (h2 : lv h = true) {k : Int32} {post : Int32 → CS → Prop}
    (hp : ∀ pl' s2, CRa C V s2 pl' (aup C V g n lv rt sd us sw (rmvL g k (rt h)).length (cpo k (rmvL g k (rt h)).reverse g n (rmvT g k (rt h))).1 (n + (rmvL g k (rt h)).length) (cpo k (rmvL g k (rt h)).reverse g n (rmvT g k (rt h))).2 sd).2 → post (aup C V g n lv rt sd us sw (rmvL g k (rt h)).length (cpo k (rmvL g k (rt h)).reverse g n (rmvT g k (rt h))).1 (n + (rmvL g k (rt h)).length) (cpo k (rmvL g k (rt h)).reverse g n (rmvT g k (rt h))).2 sd).1 s2) : wp_X2_remove C V (nI h) k s post := by
  have hsz := H.size h1 h2
  obtain ⟨⟨hC1, hC⟩, ⟨hV1, hV⟩, hw, hrt, hr, hlv, hro, h80, hsd, hus, husC, hsw⟩ := id H
  have hin := hrt h h1 h2
  unfold wp_X2_remove
  refine isLive_spec H (fun j j1 j2 j3 => brN.mf (by decide) ?_) (fun q => absurd ⟨h, h1, rfl, h2⟩ q)
  refine rdA.mk h rfl h1 (by omega) ?_
  rw [hro h h1 h2]
  have hil := liv_rt hw hrt h1 h2
  refine noteRemoval_spec hr hw hC hil hin hsz (fun s2 hs2 hn2 => nmI.mk ?_)
  rw [hn2.1]
  have H2 := H.sam hs2 (by decide)
  have hall : ∀ i ∈ rmvL g k (rt h), liv g lv rt V i := by
    intro i hi
    refine ⟨h, h1, h2, ?_⟩
    unfold rmvL at hi
    by_cases e : fnd g k (rt h) = 0
    · rw [if_pos e] at hi; cases hi
    · rw [if_neg e] at hi
      rcases List.mem_append.mp hi with q | q
      · exact (way_mem hw k _ hin i q).1
      · obtain ⟨k1, k2, k3, k4⟩ := jnt_fnd hw k hin e
        have hm := (fnd_mem hw k _ hin e).1
        have hx := nd_le hm
        rcases (jnt_all hw k _ _ _ (Nat.lt_succ_self _) k3 k4 k1 k2).2.1 i q with z | z
        · exact nd_sub hw hin hm i (by rw [nd_eq hw hx.1 (by omega)]; exact List.mem_append_left _ z)
        · exact nd_sub hw hin hm i (by rw [nd_eq hw hx.1 (by omega)]; exact List.mem_append_right _ (List.mem_cons_of_mem _ z))
  have hlen : (rmvL g k (rt h)).length ≤ 40 := by
    unfold rmvL
    by_cases e : fnd g k (rt h) = 0
    · rw [if_pos e]; simp
    · rw [if_neg e, List.length_append]
      obtain ⟨k1, k2, k3, k4⟩ := jnt_fnd hw k hin e
      have a1 := way_len hw k _ hin
      have a2 := (jnt_all hw k _ _ _ (Nat.lt_succ_self _) k3 k4 k1 k2).2.2.2.2.2.2
      have a3 := nd_len hw (by omega) (fnd_le hw k hin)
      omega
  have htS : rmvT g k (rt h) = 0 ∨ liv g lv rt V (rmvT g k (rt h)) := by
    unfold rmvT
    by_cases e : fnd g k (rt h) = 0
    · rw [if_pos e]; exact hil
    · rw [if_neg e]
      obtain ⟨k1, k2, k3, k4⟩ := jnt_fnd hw k hin e
      have hm := (fnd_mem hw k _ hin e).1
      have hx := nd_le hm
      obtain ⟨-, -, i3, i4, -⟩ := jnt_all hw k _ _ _ (Nat.lt_succ_self _) k3 k4 k1 k2
      by_cases e2 : jrs g (gL g (fnd g k (rt h))) (gR g (fnd g k (rt h))) = 0
      · exact Or.inl e2
      · refine Or.inr ⟨h, h1, h2, nd_sub hw hin hm _ ?_⟩
        rw [nd_eq hw hx.1 (by omega)]
        rcases i4 _ (nd_self hw (by omega) i3) with z | z
        · exact List.mem_append_left _ z
        · exact List.mem_append_right _ (List.mem_cons_of_mem _ z)
  refine upd_spec H2 hn2 (by omega) (fun h' s1 us1 sw1 hh H1 hn1 hu hp1 => ?_) hp
  exact over_spec H1 hh hn1 hall htS hu (rmv_wf hw k hin) hp1
theorem below_spec (H : CR C V s g n pl lv rt sd us sw) {h : Nat} (h1 : h < V) (h2 : lv h = true) {k : Int32} {post : Int32 → CS → Prop}
    (hp : ∀ pl' s2, CRa C V s2 pl' (aup C V g n lv rt sd us sw (lsr g k (rt h)).length (cpo k (lsr g k (rt h)).reverse g n 0).1 (n + (lsr g k (rt h)).length) (cpo k (lsr g k (rt h)).reverse g n 0).2 sd).2 → post (aup C V g n lv rt sd us sw (lsr g k (rt h)).length (cpo k (lsr g k (rt h)).reverse g n 0).1 (n + (lsr g k (rt h)).length) (cpo k (lsr g k (rt h)).reverse g n 0).2 sd).1 s2) : wp_X2_below C V (nI h) k s post := by
  have hsz := H.size h1 h2
  obtain ⟨⟨hC1, hC⟩, ⟨hV1, hV⟩, hw, hrt, hr, hlv, hro, h80, hsd, hus, husC, hsw⟩ := id H
  have hin := hrt h h1 h2
  unfold wp_X2_below
  refine isLive_spec H (fun j j1 j2 j3 => brN.mf (by decide) ?_) (fun q => absurd ⟨h, h1, rfl, h2⟩ q)
  refine rdA.mk h rfl h1 (by omega) ?_
  rw [hro h h1 h2]
  have hil := liv_rt hw hrt h1 h2
  refine noteLesser_spec hr hw hC hil hin hsz (fun s2 hs2 hn2 => nmI.mk ?_)
  rw [hn2.1]
  have H2 := H.sam hs2 (by decide)
  have hlen := lsr_len hw k _ hin
  refine upd_spec H2 hn2 (by omega) (fun h' s1 us1 sw1 hh H1 hn1 hu hp1 => ?_) hp
  have := over_spec H1 hh hn1 (fun i hi => ⟨h, h1, h2, (lsr_mem hw k _ hin i hi).1⟩) (Or.inl rfl) hu (lsr_wf hw k hin) hp1
  rw [hr.1] at this; exact this
/-- the seed drawn, the weight of it -/
def drw (sd : Int32) : Int32 := sd * 1103515245 + 12345
def wgt (x : Int32) : Int32 := (x.toUInt32 >>> (Int32.toUInt32 16 &&& Int32.toUInt32 31)).toInt32 &&& 15
/-- what a put makes: log, number, tree, seed -/
def putB (g : LG) (n : Nat) (sd : Int32) (k v : Int32) (i : Nat) : LG × Nat × Nat × Int32 :=
  if fnd g k i = 0 then
    let q := pln k (wgt (drw sd)) (way g k i).reverse g n 0 0
    let c := cpo k q.2.2.2.2 (gadd q.1 (q.2.1 + 1) k v (wgt (drw sd)) q.2.2.1 q.2.2.2.1) (q.2.1 + 1) (q.2.1 + 1)
    (c.1, n + (way g k i).length + 1, c.2, drw sd)
  else
    let c := cpo k (way g k i).reverse (gadd g (n + 1) k v (gW g (fnd g k i)) (gL g (fnd g k i)) (gR g (fnd g k i))) (n + 1) (n + 1)
    (c.1, n + 1 + (way g k i).length, c.2, sd)
def putO (C V : Nat) (g : LG) (n : Nat) (lv : Nat → Bool) (rt : Nat → Nat) (sd : Int32) (us : Nat) (sw : Int32) (h : Nat) (k v : Int32) : Int32 × AS :=
  aup C V g n lv rt sd us sw ((way g k (rt h)).length + 1) (putB g n sd k v (rt h)).1 (putB g n sd k v (rt h)).2.1 (putB g n sd k v (rt h)).2.2.1 (putB g n sd k v (rt h)).2.2.2
theorem put_spec (H : CR C V s g n pl lv rt sd us sw) {h : Nat} (h1 : h < V) (h2 : lv h = true) {k v : Int32} {post : Int32 → CS → Prop}
    (hp : ∀ pl' s2, CRa C V s2 pl' (putO C V g n lv rt sd us sw h k v).2 → post (putO C V g n lv rt sd us sw h k v).1 s2) : wp_X2_put C V (nI h) k v s post := by
  have hsz := H.size h1 h2
  obtain ⟨⟨hC1, hC⟩, ⟨hV1, hV⟩, hw, hrt, hr, hlv, hro, h80, hsd, hus, husC, hsw⟩ := id H
  have hin := hrt h h1 h2
  unfold wp_X2_put
  refine isLive_spec H (fun j j1 j2 j3 => brN.mf (by decide) ?_) (fun q => absurd ⟨h, h1, rfl, h2⟩ q)
  refine rdA.mk h rfl h1 (by omega) ?_
  rw [hro h h1 h2]
  have hil := liv_rt hw hrt h1 h2
  refine noteTo_spec hr hw hC hil hin hsz (fun s2 hs2 hn2 => nmI.mk (nmI.mk ?_))
  rw [hn2.1, nI_1]
  have H2 := H.sam hs2 (by decide)
  have hlen := way_len hw k _ hin
  have hall : ∀ i ∈ way g k (rt h), liv g lv rt V i := fun i hi => ⟨h, h1, h2, (way_mem hw k _ hin i hi).1⟩
  have hfl : fnd g k (rt h) = 0 ∨ liv g lv rt V (fnd g k (rt h)) := by
    by_cases e : fnd g k (rt h) = 0
    · exact Or.inl e
    · exact Or.inr ⟨h, h1, h2, (fnd_mem hw k _ hin e).1⟩
  unfold putO at hp
  refine upd_spec H2 hn2 (by omega) (fun h' s1 us1 sw1 hh H1 hn1 hu hp1 => ?_) hp
  obtain ⟨-, -, -, -, hr1, -, -, -, hsd1, hus1, husC1, -⟩ := id H1
  refine brN.mk (fun c => ?_) (fun c => ?_)
  · have e : fnd g k (rt h) = 0 := (hr.pos hfl).mp ((nI_eq (a := pl (fnd g k (rt h))) (b := 0) (by have := hr.le hfl; omega) (by decide)).mp c)
    unfold putB at hp1
    rw [if_pos e] at hp1
    dsimp only at hp1
    unfold wp_X2_drawWeight
    refine nmI.mk (nmI.mk (nmI.mk (stF.mk (nmI.mk (nmI.mk (nmI.mk ?_))))))
    rw [hsd1, cset_eq]
    have hs3 : sam [0, 1, 2, 3, 4, 5, 6, 7, 11, 14] s1 (cset s1 14 (fun _ => sd * 1103515245 + 12345)) := sam.cs (by decide)
    have hr3 := hr1.sam (J := [14]) (sam.cs (s := s1) (i := 14) (f := fun _ => sd * 1103515245 + 12345) (by decide)) (by decide)
    have hn3 : noted (cset s1 14 (fun _ => sd * 1103515245 + 12345)) pl (way g k (rt h)) := hn1.sam (cset_ne _ _ (by decide)) (cset_ne _ _ (by decide))
    have hc3 : ctB (cset s1 14 (fun _ => sd * 1103515245 + 12345) 7) (C + 1) = us1 := by rw [cset_ne _ _ (by decide)]; exact hus1
    have hd3 : cset s1 14 (fun _ => sd * 1103515245 + 12345) 14 0 = drw sd := by rw [cset_eq]; rfl
    show wp_X1_placeNew C V k v (wgt (drw sd)) _ _
    generalize cset s1 14 (fun _ => sd * 1103515245 + 12345) = s3 at hs3 hr3 hn3 hc3 hd3 ⊢
    refine placeNew_spec hC1 hC hr3 hw.ac (liv_n hrt) hn3 hall (by omega) (fun pl' s4 g1 n1 a1 b1 rs e1 e2 e3 e4 e5 e6 e7 e8 e9 e10 => ?_)
    rw [e1] at hp1
    dsimp only at hp1
    have hwf := pnw_wf hw k v (wgt (drw sd)) hin e1
    have hlen2 : n1 + 1 + rs.length = n + (way g k (rt h)).length + 1 := by omega
    refine over2_spec H1 hh (sd' := drw sd) (n1 := n1 + 1) (m1 := (way g k (rt h)).length + 1 - rs.length) e4 e5 (by omega) e7 (hs3.tr (e9.up (by decide))) (by omega) (by rw [e9.at 14]; exact hd3) e8 (fun i hi => e3 i (List.mem_reverse.mp hi)) (Or.inr (Or.inr (by omega))) (by rw [List.length_reverse]; omega) (k := k) ?_ (fun pl2 s5 h5 => ?_)
    · rw [List.reverse_reverse, List.length_reverse, hlen2]; exact hwf
    · rw [List.reverse_reverse, List.length_reverse, hlen2] at h5
      refine hp1 pl2 s5 ?_
      rw [show us1 + ((way g k (rt h)).length + 1) = us1 + ((way g k (rt h)).length + 1 - rs.length + rs.length) by omega]
      exact h5
  · have e : fnd g k (rt h) ≠ 0 := fun e => c (by rw [e, hr.1]; rfl)
    unfold putB at hp1
    rw [if_neg e] at hp1
    dsimp only at hp1
    have hS := hfl.resolve_left e
    obtain ⟨x0, ⟨⟨p1, p1'⟩, p2, p3, p4, p5, p6, p7, p8⟩, -⟩ := hr1.2.1 _ hS
    have hxn := fnd_le hw k hin
    refine rdA.mk (pl (fnd g k (rt h))) rfl (by omega) (by omega) ?_
    refine rdA.mk (pl (fnd g k (rt h))) rfl (by omega) (by omega) ?_
    refine rdA.mk (pl (fnd g k (rt h))) rfl (by omega) (by omega) ?_
    rw [p5, p6, p7]
    refine fresh_spec hr1 hw.ac (liv_n hrt) hC1 hC (by omega) (kid_ok hr1 hS).1 (kid_ok hr1 hS).2 (fun p s3 a1 a2 a3 => ?_)
    rw [Sup_1] at a1
    obtain ⟨w1, w2, -⟩ := hw _ x0 hxn
    refine over2_spec H1 hh (sd' := sd) (n1 := n + 1) (m1 := 1) a1 (hw.ac.add (by omega) (by omega)) (by omega) (plx.up pl n p) (a2.up (by decide)) (by omega) (by rw [a2.at 14]; exact hsd1) ((hn1.sam (a2.at 10) (a2.at 11)).plx (plx.up pl n p) (fun x hx => liv_n hrt x (hall x hx))) hall (Or.inr (Or.inr (by omega))) (by omega) (k := k) (pvl_wf hw k v hin e) (fun pl2 s5 h5 => ?_)
    refine hp1 pl2 s5 ?_
    rw [show us1 + ((way g k (rt h)).length + 1) = us1 + (1 + (way g k (rt h)).length) by omega]
    exact h5
end OpsC
