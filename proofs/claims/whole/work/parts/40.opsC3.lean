/-! the class's answers against the log -/
def sm (F : Nat → Int64) : Nat → Int64
  | 0 => 0
  | m + 1 => sm F m + F m
def smf (F : Nat → Int64) : List Nat → Int64
  | [] => 0
  | i :: l => F i + smf F l
theorem sm_cong {F G : Nat → Int64} : ∀ {m : Nat}, (∀ p, p < m → F p = G p) → sm F m = sm G m
  | 0, _ => rfl
  | m + 1, h => by rw [sm, sm, sm_cong (fun p hp => h p (by omega)), h m (by omega)]
theorem sm_zero {F : Nat → Int64} : ∀ {m : Nat}, (∀ p, p < m → F p = 0) → sm F m = 0
  | 0, _ => rfl
  | m + 1, h => by rw [sm, sm_zero (fun p hp => h p (by omega)), h m (by omega), Int64.add_zero]
theorem sm_split {F : Nat → Int64} {q : Nat} : ∀ {m : Nat}, q < m → sm F m = F q + sm (fun p => if p = q then 0 else F p) m
  | 0, h => absurd h (Nat.not_lt_zero _)
  | m + 1, h => by
    rw [sm, sm]
    by_cases e : q = m
    · subst e
      rw [if_pos rfl, Int64.add_zero, Int64.add_comm]
      congr 1
      exact sm_cong (fun p hp => by rw [if_neg (by omega)])
    · rw [if_neg (fun z => e z.symm), sm_split (show q < m by omega), Int64.add_assoc]
theorem smf_cong {F G : Nat → Int64} : ∀ {l : List Nat}, (∀ i ∈ l, F i = G i) → smf F l = smf G l
  | [], _ => rfl
  | a :: l, h => by rw [smf, smf, h a List.mem_cons_self, smf_cong (fun i hi => h i (List.mem_cons_of_mem _ hi))]
theorem sm_list (pl : Nat → Nat) {m : Nat} : ∀ (l : List Nat) (F : Nat → Int64), (l.map pl).Nodup → (∀ i ∈ l, pl i < m) → (∀ p, p < m → (∀ i ∈ l, pl i ≠ p) → F p = 0) → sm F m = smf (fun i => F (pl i)) l
  | [], F, _, _, hz => sm_zero (fun p hp => hz p hp (fun i hi => by cases hi))
  | i :: l, F, hn, hlt, hz => by
    rw [List.map_cons, List.nodup_cons] at hn
    have hne : ∀ j ∈ l, pl j ≠ pl i := fun j hj e => hn.1 (by rw [← e]; exact List.mem_map_of_mem hj)
    rw [smf, sm_split (hlt i List.mem_cons_self)]
    congr 1
    rw [sm_list pl l _ hn.2 (fun j hj => hlt j (List.mem_cons_of_mem _ hj)) (fun p hp hq => ?_)]
    · exact smf_cong (fun j hj => by rw [if_neg (hne j hj)])
    · by_cases e : p = pl i
      · rw [if_pos e]
      · rw [if_neg e]
        refine hz p hp (fun j hj => ?_)
        rcases List.mem_cons.mp hj with q | q
        · rw [q]; exact fun z => e z.symm
        · exact hq j q
/-- the sum that is asked for -/
def smG (g : LG) (lo hi : Int32) (i : Nat) : Int64 := smf (fun j => if gK g j < lo ∨ hi < gK g j then 0 else (gV g j).toInt64) (nd g i)
def m0 : Nat → Bool := fun _ => false
theorem clo_0 (g : LG) : clo g m0 := fun j hj => by cases hj
/-- the nodes that two trees share -/
def shr (g : LG) (a b : Nat) : Nat := (nd g b).length - nwc g (mu m0 (nd g a)) b
theorem nwc_le (g : LG) (M : Nat → Bool) (i : Nat) : nwc g M i ≤ (nd g i).length := by unfold nwc; exact List.length_filter_le _ _
theorem nwc_0 (g : LG) (i : Nat) : nwc g m0 i = (nd g i).length := by
  unfold nwc
  have e : (nd g i).filter (fun j => !m0 j) = nd g i := List.filter_eq_self.mpr (fun a _ => rfl)
  rw [e]
section OpsC3
variable {C V n : Nat} {s : CS} {g : LG} {pl : Nat → Nat} {lv : Nat → Bool} {rt : Nat → Nat} {sd sw : Int32} {us : Nat}
theorem CR_sam8 {s' : CS} (H : CR C V s g n pl lv rt sd us sw) (hs : sam [8, 9, 10, 11] s s') (h8 : s' 8 0 = 0) : CR C V s' g n pl lv rt sd us sw := by
  obtain ⟨a1, a2, a3, a4, a5, a6, a7, a8, a9, a10, a11, a12⟩ := H
  refine ⟨a1, a2, a3, a4, a5.sam hs (by decide), ?_, ?_, h8, ?_, ?_, a11, ?_⟩
  · rw [hs.at 12]; exact a6
  · rw [hs.at 13]; exact a7
  · rw [hs.at 14]; exact a9
  · rw [hs.at 7]; exact a10
  · rw [hs.at 15]; exact a12
theorem nodeWith_spec (H : CR C V s g n pl lv rt sd us sw) {x k : Int32} {post : Int32 → CS → Prop} (hy : ∀ h, h < V → x = nI h → lv h = true → ∀ s2, CR C V s2 g n pl lv rt sd us sw → noted s2 pl (way g k (rt h)) → post (nI (pl (fnd g k (rt h)))) s2) (hn : (¬ ∃ h, h < V ∧ x = nI h ∧ lv h = true) → post 0 s) : wp_X2_nodeWith C V x k s post := by
  have hsz := fun {h} => H.size (h := h)
  obtain ⟨⟨hC1, hC⟩, ⟨hV1, hV⟩, hw, hrt, hr, hlv, hro, h80, hsd, hus, husC, hsw⟩ := id H
  unfold wp_X2_nodeWith
  refine isLive_spec H (fun h h1 e h2 => brN.mf (by decide) ?_) (fun q => brN.mt rfl (hn q))
  refine rdA.mk h e h1 (by omega) ?_
  rw [hro h h1 h2]
  exact noteTo_spec hr hw hC (liv_rt hw hrt h1 h2) (hrt h h1 h2) (hsz h1 h2) (fun s2 hs2 hn2 => hy h h1 e h2 s2 (H.sam hs2 (by decide)) hn2)
theorem fnd_pl (H : CR C V s g n pl lv rt sd us sw) {h : Nat} (h1 : h < V) (h2 : lv h = true) (k : Int32) : nI (pl (fnd g k (rt h))) = 0 ↔ fnd g k (rt h) = 0 := by
  obtain ⟨⟨hC1, hC⟩, ⟨hV1, hV⟩, hw, hrt, hr, -⟩ := id H
  have hfl : fnd g k (rt h) = 0 ∨ liv g lv rt V (fnd g k (rt h)) := by
    by_cases e : fnd g k (rt h) = 0
    · exact Or.inl e
    · exact Or.inr ⟨h, h1, h2, (fnd_mem hw k _ (hrt h h1 h2) e).1⟩
  have hle := hr.le hfl
  rw [show (0 : Int32) = nI 0 from rfl, nI_eq (by omega) (by decide), hr.pos hfl]
theorem contains_spec (H : CR C V s g n pl lv rt sd us sw) {x k : Int32} {post : Int32 → CS → Prop} (hy : ∀ h, h < V → x = nI h → lv h = true → ∀ s2, CR C V s2 g n pl lv rt sd us sw → post (bI (decide (fnd g k (rt h) ≠ 0))) s2) (hn : (¬ ∃ h, h < V ∧ x = nI h ∧ lv h = true) → post 0 s) : wp_X2_contains C V x k s post := by
  unfold wp_X2_contains
  refine nodeWith_spec H (fun h h1 e h2 s2 H2 _ => ?_) (fun q => brN.mt rfl (hn q))
  have hf := fnd_pl H h1 h2 k
  have hp := hy h h1 e h2 s2 H2
  refine brN.mk (fun c => ?_) (fun c => ?_)
  · rw [show decide (fnd g k (rt h) ≠ 0) = false by simp [hf.mp c]] at hp; exact hp
  · have c' : fnd g k (rt h) ≠ 0 := fun e => c (hf.mpr e)
    rw [show decide (fnd g k (rt h) ≠ 0) = true by simp [c']] at hp; exact hp
theorem size_spec (H : CR C V s g n pl lv rt sd us sw) {x : Int32} {post : Int32 → CS → Prop} (hy : ∀ h, h < V → x = nI h → lv h = true → post (nI (nd g (rt h)).length) s) (hn : (¬ ∃ h, h < V ∧ x = nI h ∧ lv h = true) → post (-1) s) : wp_X2_size C V x s post := by
  obtain ⟨⟨hC1, hC⟩, ⟨hV1, hV⟩, hw, hrt, hr, hlv, hro, -⟩ := id H
  unfold wp_X2_size
  refine isLive_spec H (fun h h1 e h2 => brN.mf (by decide) ?_) (fun q => brN.mt rfl (hn q))
  refine rdA.mk h e h1 (by omega) ?_
  rw [hro h h1 h2]
  have hl := liv_rt hw hrt h1 h2
  refine rdA.mk (pl (rt h)) rfl (by have := hr.le hl; omega) (by omega) ?_
  rw [repC_cnt hr hl]; exact hy h h1 e h2
theorem drop_spec (H : CR C V s g n pl lv rt sd us sw) {x : Int32} {post : Int32 → CS → Prop} (hy : ∀ h, h < V → x = nI h → lv h = true → ∀ s2, CR C V s2 g n pl (upn lv h false) rt sd us sw → post 1 s2) (hn : (¬ ∃ h, h < V ∧ x = nI h ∧ lv h = true) → post 0 s) : wp_X2_drop C V x s post := by
  obtain ⟨⟨hC1, hC⟩, ⟨hV1, hV⟩, hw, hrt, hr, hlv, hro, h80, hsd, hus, husC, hsw⟩ := id H
  unfold wp_X2_drop
  refine isLive_spec H (fun h h1 e h2 => brN.mf (by decide) ?_) (fun q => brN.mt rfl (hn q))
  refine wrZ.mk h e h1 (by omega) isB_0 (hy h h1 e h2 _ ?_)
  have hl : ∀ j, upn lv h false j = true → lv j = true := by
    intro j hj
    by_cases e : j = h
    · rw [e, upn_eq] at hj; cases hj
    · rw [upn_ne _ _ e] at hj; exact hj
  have hrt' : ∀ j, j < V → upn lv h false j = true → rt j ≤ n := fun j hj q => hrt j hj (hl j q)
  have hs : sam [12] s (cset s 12 (upd (s 12) h 0)) := sam.cs (by decide)
  refine ⟨⟨hC1, hC⟩, ⟨hV1, hV⟩, hw, hrt', ?_, fun j hj => ?_, fun j hj q => ?_, ?_, ?_, ?_, husC, ?_⟩
  · refine (repC_sub hr ?_ (liv_clo hw hrt')).sam hs (by decide)
    rintro i ⟨j, j1, j2, j3⟩; exact ⟨j, j1, hl j j2, j3⟩
  · rw [cset_eq, upd_ap]
    by_cases e : j = h
    · rw [if_pos e, e, upn_eq]; rfl
    · rw [if_neg e, upn_ne _ _ e]; exact hlv j hj
  · rw [hs.at 13]; exact hro j hj (hl j q)
  · rw [hs.at 8]; exact h80
  · rw [hs.at 14]; exact hsd
  · rw [hs.at 7]; exact hus
  · rw [hs.at 15]; exact hsw
theorem nodes_spec (H : CR C V s g n pl lv rt sd us sw) {post : Int32 → CS → Prop} (hy : ∀ s2, CR C V s2 g n pl lv rt sd us sw → post (nI (lvc g lv rt V)) s2) : wp_X2_nodes C V s post := by
  unfold wp_X2_nodes
  refine reachLive_spec H (fun s2 hs2 hm _ => hy s2 (CR_sam8 H (hs2.up (by decide)) ?_))
  exact RCH.z (H.2.2.2.2.1.sam hs2 (by decide)) hm
theorem used_spec (H : CR C V s g n pl lv rt sd us sw) {post : Int32 → CS → Prop} (hy : post (nI us) s) : wp_X2_used C V s post := by
  unfold wp_X2_used
  refine nmI.mk ?_
  obtain ⟨-, -, -, -, hr, -, -, -, -, hus, -⟩ := H
  rw [hr.2.2.2.2.2.2, hus]; exact hy
theorem sweeps_spec (H : CR C V s g n pl lv rt sd us sw) {post : Int32 → CS → Prop} (hy : post sw s) : wp_X2_sweeps C V s post := by
  unfold wp_X2_sweeps
  refine nmI.mk ?_
  obtain ⟨-, -, -, -, -, -, -, -, -, -, -, hsw⟩ := H
  rw [hsw]; exact hy
theorem sum_spec (H : CR C V s g n pl lv rt sd us sw) {x lo hi : Int32} {post : Int64 → CS → Prop} (hy : ∀ h, h < V → x = nI h → lv h = true → ∀ s2, CR C V s2 g n pl lv rt sd us sw → post (smG g lo hi (rt h)) s2) (hn : (¬ ∃ h, h < V ∧ x = nI h ∧ lv h = true) → post 0 s) : wp_X2_sum C V x lo hi s post := by
  have hsz := fun {h} => H.size (h := h)
  obtain ⟨⟨hC1, hC⟩, ⟨hV1, hV⟩, hw, hrt, hr, hlv, hro, h80, hsd, hus, husC, hsw⟩ := id H
  unfold wp_X2_sum
  refine isLive_spec H (fun h h1 e h2 => brN.mf (by decide) ?_) (fun q => brN.mt rfl (hn q))
  refine forget_spec hr hC h80 (fun s1 hs1 hm1 hc1 => ?_)
  refine rdA.mk h e h1 (by omega) ?_
  rw [hs1.at 13, hro h h1 h2]
  have hr1 := hr.sam hs1 (by decide)
  have hl := liv_rt hw hrt h1 h2
  have hin := hrt h h1 h2
  refine reach_spec hr1 hw hC hm1 (clo_0 g) hl hin (hsz h1 h2) (fun s2 hs2 hm2 hc2 => ?_)
  have hr2 := hr1.sam hs2 (by decide)
  have h82 := RCH.z hr2 hm2
  refine sumReached_spec hC h82 ?_
  have H2 := CR_sam8 H ((hs1.up (by decide)).tr (hs2.up (by decide))) h82
  have hp := hy h h1 e h2 s2 H2
  have hsm : ∀ m, smP s2 lo hi m = sm (fun p => if s2 8 p = 0 ∨ s2 0 p < lo ∨ hi < s2 0 p then 0 else (s2 1 p).toInt64) m := by
    intro m
    induction m with
    | zero => rfl
    | succ m ih => rw [smP, sm, ih]
  have hnode : ∀ i ∈ nd g (rt h), liv g lv rt V i := fun i hi => ⟨h, h1, h2, hi⟩
  rw [hsm, sm_list pl (nd g (rt h))]
  · unfold smG at hp
    rw [smf_cong (G := fun j => if gK g j < lo ∨ hi < gK g j then 0 else (gV g j).toInt64)]
    · exact hp
    · intro i hi'
      obtain ⟨-, ⟨-, -, p3, p4, -⟩, -⟩ := hr2.2.1 i (hnode i hi')
      have h8 : s2 8 (pl i) = 1 := (hm2.2.1 i (hnode i hi')).mpr (mu_iff.mpr (Or.inr hi'))
      show (if s2 8 (pl i) = 0 ∨ s2 0 (pl i) < lo ∨ hi < s2 0 (pl i) then (0 : Int64) else (s2 1 (pl i)).toInt64) = _
      rw [h8, p3, p4]
      simp
  · exact map_nodup (nd_nodup hw hin) (fun a ha b hb e => hr.2.2.1 a b (hnode a ha) (hnode b hb) e)
  · intro i hi'
    have := (hr2.2.1 i (hnode i hi')).2.1.1.2; omega
  · intro p hp' hq
    have : s2 8 p = 0 := by
      rcases hm2.1 p (by omega) with q | q
      · exact q
      · obtain ⟨i, i1, i2, i3⟩ := hm2.2.2 p (by omega) q
        rcases mu_iff.mp i2 with z | z
        · cases z
        · exact absurd i3 (hq i z)
    rw [if_pos (Or.inl this)]
theorem shared_spec (H : CR C V s g n pl lv rt sd us sw) {x y : Int32} {post : Int32 → CS → Prop} (hy : ∀ h j, h < V → x = nI h → lv h = true → j < V → y = nI j → lv j = true → ∀ s2, CR C V s2 g n pl lv rt sd us sw → post (nI (shr g (rt h) (rt j))) s2)
    (hn : (¬ ∃ h, h < V ∧ x = nI h ∧ lv h = true) ∨ (¬ ∃ h, h < V ∧ y = nI h ∧ lv h = true) → post (-1) s) : wp_X2_shared C V x y s post := by
  have hsz := fun {h} => H.size (h := h)
  obtain ⟨⟨hC1, hC⟩, ⟨hV1, hV⟩, hw, hrt, hr, hlv, hro, h80, hsd, hus, husC, hsw⟩ := id H
  unfold wp_X2_shared
  refine isLive_spec H (fun h h1 e h2 => brN.mf (by decide) ?_) (fun q => brN.mt rfl (hn (Or.inl q)))
  refine isLive_spec H (fun j j1 e' j2 => brN.mf (by decide) ?_) (fun q => brN.mt rfl (hn (Or.inr q)))
  refine forget_spec hr hC h80 (fun s1 hs1 hm1 hc1 => ?_)
  refine rdA.mk h e h1 (by omega) ?_
  rw [hs1.at 13, hro h h1 h2]
  have hr1 := hr.sam hs1 (by decide)
  have hl := liv_rt hw hrt h1 h2
  have hin := hrt h h1 h2
  have hl' := liv_rt hw hrt j1 j2
  have hjn := hrt j j1 j2
  refine reach_spec hr1 hw hC hm1 (clo_0 g) hl hin (hsz h1 h2) (fun s2 hs2 hm2 hc2 => ?_)
  have hr2 := hr1.sam hs2 (by decide)
  refine rdA.mk j e' j1 (by omega) ?_
  rw [hs2.at 13, hs1.at 13, hro j j1 j2]
  refine rdA.mk (pl (rt j)) rfl (by have := hr.le hl'; omega) (by omega) ?_
  rw [repC_cnt hr2 hl']
  refine rdA.mk j e' j1 (by omega) ?_
  rw [hro j j1 j2]
  refine reach_spec hr2 hw hC hm2 (clo_mu (clo_0 g) hw hin) hl' hjn (hsz j1 j2) (fun s3 hs3 hm3 hc3 => nmI.mk ?_)
  have hr3 := hr2.sam hs3 (by decide)
  have h83 := RCH.z hr3 hm3
  rw [pk_sub (nwc_le g _ _)]
  exact hy h j h1 e h2 j1 e' j2 s3 (CR_sam8 H (((hs1.up (by decide)).tr (hs2.up (by decide))).tr (hs3.up (by decide))) h83)
/-- the trees are not as a join needs them -/
def mxd (g : LG) (a b : Nat) : Prop := a ≠ 0 ∧ b ≠ 0 ∧ ¬ gK g (nth g a ((nd g a).length - 1)) < gK g (nth g b 0)
def joinO (C V : Nat) (g : LG) (n : Nat) (lv : Nat → Bool) (rt : Nat → Nat) (sd : Int32) (us : Nat) (sw : Int32) (a b : Nat) : Int32 × AS :=
  aup C V g n lv rt sd us sw (jnt g (rt a) (rt b)).length (cpo (gK g (nth g (rt b) 0)) (jnt g (rt a) (rt b)).reverse g n (jrs g (rt a) (rt b))).1 (n + (jnt g (rt a) (rt b)).length) (cpo (gK g (nth g (rt b) 0)) (jnt g (rt a) (rt b)).reverse g n (jrs g (rt a) (rt b))).2 sd
theorem nd_ne {g : LG} {n i : Nat} (hw : wfG g n) (h0 : i ≠ 0) (hi : i ≤ n) : 0 < (nd g i).length := by
  have := nd_len hw (by omega) hi; omega
theorem nth_in {g : LG} {i : Nat} {z : Int} (h1 : 0 ≤ z) (h2 : z < (nd g i).length) : nth g i z = (nd g i).getD z.toNat 0 ∧ nth g i z ∈ nd g i := by
  have e : nth g i z = (nd g i).getD z.toNat 0 := by unfold nth; rw [if_pos ⟨h1, h2⟩]
  exact ⟨e, by rw [e]; exact getD_mem (by omega)⟩
theorem srt_first {g : LG} {n i : Nat} (hw : wfG g n) (h0 : i ≠ 0) (hi : i ≤ n) : ∀ y ∈ nd g i, ¬ gK g y < gK g (nth g i 0) := by
  have hs := nd_srt hw hi
  have e := (nth_in (g := g) (i := i) (z := 0) (by omega) (by have := nd_ne hw h0 hi; omega)).1
  rw [e]
  cases hl : nd g i with
  | nil => intro y hy; cases hy
  | cons a l =>
    rw [hl] at hs
    intro y hy
    simp only [Int.toNat_zero, List.getD_cons_zero]
    rcases List.mem_cons.mp hy with q | q
    · rw [q]; exact i32_irr
    · exact i32_lt_asymm ((List.pairwise_cons.mp hs).1 y q)
theorem srt_last {g : LG} {n i : Nat} (hw : wfG g n) (h0 : i ≠ 0) (hi : i ≤ n) : ∀ y ∈ nd g i, ¬ gK g (nth g i ((nd g i).length - 1)) < gK g y := by
  have hs := nd_srt hw hi
  have hpos := nd_ne hw h0 hi
  have e := (nth_in (g := g) (i := i) (z := (nd g i).length - 1) (by omega) (by omega)).1
  rw [e, show (((nd g i).length : Int) - 1).toNat = (nd g i).length - 1 by omega]
  have hne : nd g i ≠ [] := fun q => by rw [q] at hpos; simp at hpos
  generalize nd g i = l at *
  obtain ⟨l0, x, rfl⟩ : ∃ l0 x, l = l0 ++ [x] := ⟨l.dropLast, l.getLast hne, (List.dropLast_concat_getLast hne).symm⟩
  have : (l0 ++ [x]).length - 1 = l0.length := by simp
  rw [this, getD_app_last]
  intro y hy
  rcases List.mem_append.mp hy with q | q
  · exact i32_lt_asymm ((List.pairwise_append.mp hs).2.2 y q x List.mem_cons_self)
  · simp at q; rw [q]; exact i32_irr
theorem join_spec (H : CR C V s g n pl lv rt sd us sw) {a b : Nat} (a1 : a < V) (a2 : lv a = true) (b1 : b < V) (b2 : lv b = true) {post : Int32 → CS → Prop} (hmx : mxd g (rt a) (rt b) → post (-4) s)
    (hp : ¬ mxd g (rt a) (rt b) → ∀ pl' s2, CRa C V s2 pl' (joinO C V g n lv rt sd us sw a b).2 → post (joinO C V g n lv rt sd us sw a b).1 s2) : wp_X2_join C V (nI a) (nI b) s post := by
  have hsz := fun {h} => H.size (h := h)
  obtain ⟨⟨hC1, hC⟩, ⟨hV1, hV⟩, hw, hrt, hr, hlv, hro, h80, hsd, hus, husC, hsw⟩ := id H
  have ha := liv_rt hw hrt a1 a2
  have han := hrt a a1 a2
  have hb := liv_rt hw hrt b1 b2
  have hbn := hrt b b1 b2
  -- behind the look at the keys
  have tl : ¬ mxd g (rt a) (rt b) → stF s 11 0 (fun u => wp_X1_noteJoint C V (nI (pl (rt a))) (nI (pl (rt b))) u (fun r18 u17 => nmI (u17 11 0) (fun z19 => wp_X2_handleFor C V z19 u17 (fun r21 u20 => brN (0 ≤ r21) (rdA (u20 0) (C + 1) (nI (pl (nth g (rt b) 0))) (fun z23 => wp_X1_copyOver C V r18 z23 u20 (fun r25 u24 => wp_X2_open C V r21 r25 u24 (fun r27 u26 => post r27 u26)))) (post r21 u20))))) := by
    intro hnm
    refine stF.mk ?_
    have hs1 : sam [10, 11] s (cset s 11 (fun _ => 0)) := sam.cs (by decide)
    have H1 := H.sam hs1 (by decide)
    have hn1 := noted_0 s pl
    have hr1 := hr.sam hs1 (by decide)
    generalize cset s 11 (fun _ => 0) = s1 at hs1 H1 hn1 hr1 ⊢
    have hnm' : rt a ≠ 0 → rt b ≠ 0 → ∀ x ∈ nd g (rt a), gK g x < gK g (nth g (rt b) 0) := by
      intro e1 e2 x hx
      have h1 := srt_last hw e1 han x hx
      have h2 : gK g (nth g (rt a) ((nd g (rt a)).length - 1)) < gK g (nth g (rt b) 0) := Decidable.byContradiction (fun q => hnm ⟨e1, e2, q⟩)
      rw [Int32.lt_iff_toInt_lt] at *; omega
    have hdis : ∀ x ∈ nd g (rt a), ∀ y ∈ nd g (rt b), x ≠ y := by
      intro x hx y hy e
      have e1 : rt a ≠ 0 := fun q => by rw [q, nd_0] at hx; cases hx
      have e2 : rt b ≠ 0 := fun q => by rw [q, nd_0] at hy; cases hy
      have := hnm' e1 e2 x hx
      rw [e] at this
      exact srt_first hw e2 hbn y hy this
    have hlen : (nd g (rt a)).length + (nd g (rt b)).length ≤ C := by
      have := hr.len (l := nd g (rt a) ++ nd g (rt b)) (List.nodup_append.mpr ⟨nd_nodup hw han, nd_nodup hw hbn, hdis⟩) (fun x hx => by
        rcases List.mem_append.mp hx with q | q
        · exact ⟨a, a1, a2, q⟩
        · exact ⟨b, b1, b2, q⟩)
      rw [List.length_append] at this; exact this
    have hjw : (∀ i ∈ jnt g (rt a) (rt b), liv g lv rt V i) ∧ (jrs g (rt a) (rt b) = 0 ∨ liv g lv rt V (jrs g (rt a) (rt b))) ∧ (jnt g (rt a) (rt b)).length ≤ 40 ∧ ∀ kk : Int32, (rt a ≠ 0 → rt b ≠ 0 → kk = gK g (nth g (rt b) 0)) → wfG (cpo kk (jnt g (rt a) (rt b)).reverse g n (jrs g (rt a) (rt b))).1 (n + (jnt g (rt a) (rt b)).length) ∧ agr g (cpo kk (jnt g (rt a) (rt b)).reverse g n (jrs g (rt a) (rt b))).1 n ∧ (cpo kk (jnt g (rt a) (rt b)).reverse g n (jrs g (rt a) (rt b))).2 ≤ n + (jnt g (rt a) (rt b)).length := by
      by_cases e1 : rt a = 0
      · rw [e1, jnt_0l, jrs_0l]
        exact ⟨fun i hi => (by cases hi), hb, by simp, fun kk _ => ⟨hw, agr.rf g n, hbn⟩⟩
      · by_cases e2 : rt b = 0
        · rw [e2, jnt_0r, jrs_0r]
          exact ⟨fun i hi => (by cases hi), ha, by simp, fun kk _ => ⟨hw, agr.rf g n, han⟩⟩
        · have kl := hnm' e1 e2
          have kr := srt_first hw e2 hbn
          obtain ⟨-, i2, i3, i4, -, -, i7⟩ := jnt_all hw (gK g (nth g (rt b) 0)) _ _ _ (Nat.lt_succ_self _) han hbn kl kr
          refine ⟨fun i hi => ?_, ?_, by omega, fun kk hk => ?_⟩
          · rcases i2 i hi with q | q
            · exact ⟨a, a1, a2, q⟩
            · exact ⟨b, b1, b2, q⟩
          · by_cases e3 : jrs g (rt a) (rt b) = 0
            · exact Or.inl e3
            · rcases i4 _ (nd_self hw (by omega) i3) with q | q
              · exact Or.inr ⟨a, a1, a2, q⟩
              · exact Or.inr ⟨b, b1, b2, q⟩
          · rw [hk e1 e2]; exact jnt_wf hw _ han hbn kl kr
    obtain ⟨j1, j2, j3, j4⟩ := hjw
    refine noteJoint_spec hr1 hw hC hn1 ha han hb hbn (by simpa using hlen) (fun s2 hs2 hn2 => nmI.mk ?_)
    rw [List.nil_append] at hn2
    rw [hn2.1]
    have H2 := H1.sam hs2 (by decide)
    have hp' := hp hnm
    unfold joinO at hp'
    refine upd_spec H2 hn2 (by omega) (fun h' s3 us1 sw1 hh H3 hn3 hu hp1 => ?_) hp'
    obtain ⟨-, -, -, -, hr3, -⟩ := id H3
    by_cases e2 : rt b = 0
    · have e3 : nth g (rt b) 0 = 0 := by rw [e2, nth_0]
      have ej : jnt g (rt a) (rt b) = [] := by rw [e2, jnt_0r]
      refine rdA.mk 0 (by rw [e3, hr.1]) (by omega) (by omega) ?_
      refine over_spec H3 hh hn3 j1 j2 hu (j4 _ (fun _ q => absurd e2 q)) (fun pl' s4 h4 => hp1 pl' s4 ?_)
      have ec : ∀ kk : Int32, cpo kk (jnt g (rt a) (rt b)).reverse g n (jrs g (rt a) (rt b)) = (g, jrs g (rt a) (rt b)) := by intro kk; rw [ej]; rfl
      rw [ec] at h4 ⊢; exact h4
    · have hz := (nth_in (g := g) (i := rt b) (z := 0) (by omega) (by have := nd_ne hw e2 hbn; omega)).2
      obtain ⟨-, ⟨⟨p1, p2⟩, -, p3, -⟩, -⟩ := hr3.2.1 _ ⟨b, b1, b2, hz⟩
      refine rdA.mk (pl (nth g (rt b) 0)) rfl (by omega) (by omega) ?_
      rw [p3]
      exact over_spec H3 hh hn3 j1 j2 hu (j4 _ (fun _ _ => rfl)) hp1
  unfold wp_X2_join
  refine isLive_spec H (fun j j1 j2 j3 => brN.mf (by decide) ?_) (fun q => absurd ⟨a, a1, rfl, a2⟩ q)
  refine isLive_spec H (fun j j1 j2 j3 => brN.mf (by decide) ?_) (fun q => absurd ⟨b, b1, rfl, b2⟩ q)
  refine rdA.mk a rfl a1 (by omega) ?_
  refine rdA.mk b rfl b1 (by omega) ?_
  rw [hro a a1 a2, hro b b1 b2]
  refine rdA.mk (pl (rt a)) rfl (by have := hr.le ha; omega) (by omega) (nmI.mk ?_)
  rw [repC_cnt hr ha]
  have hszA := hsz a1 a2
  have ez : (nI (nd g (rt a)).length - 1).toInt = ((nd g (rt a)).length : Int) - 1 := by
    have e1 : (nI (nd g (rt a)).length).toInt = (nd g (rt a)).length := nI_toInt (by omega)
    have e2 : (1 : Int32).toInt = 1 := rfl
    rw [i32_sub (by omega) (by omega), e1, e2]
  refine nodeAt_spec hr hw hC ha han hszA ?_
  rw [ez]
  refine nodeAt_spec hr hw hC hb hbn (hsz b1 b2) ?_
  rw [show (0 : Int32).toInt = 0 from rfl]
  have zA : nI (pl (nth g (rt a) (((nd g (rt a)).length : Int) - 1))) = 0 ↔ rt a = 0 := by
    constructor
    · intro e
      refine Decidable.byContradiction (fun q => ?_)
      have hz := (nth_in (g := g) (i := rt a) (z := ((nd g (rt a)).length : Int) - 1) (by have := nd_ne hw q han; omega) (by omega)).2
      have := (hr.2.1 _ ⟨a, a1, a2, hz⟩).2.1.1
      exact absurd e (nI_ne0 (by omega) (by omega))
    · intro e; rw [e, nth_0, hr.1]; rfl
  have zB : nI (pl (nth g (rt b) 0)) = 0 ↔ rt b = 0 := by
    constructor
    · intro e
      refine Decidable.byContradiction (fun q => ?_)
      have hz := (nth_in (g := g) (i := rt b) (z := 0) (by omega) (by have := nd_ne hw q hbn; omega)).2
      have := (hr.2.1 _ ⟨b, b1, b2, hz⟩).2.1.1
      exact absurd e (nI_ne0 (by omega) (by omega))
    · intro e; rw [e, nth_0, hr.1]; rfl
  refine brN.mk (fun c => ?_) (fun c => ?_)
  · exact tl (fun q => q.1 (zA.mp c))
  · have ea : rt a ≠ 0 := fun q => c (zA.mpr q)
    refine brN.mk (fun c2 => ?_) (fun c2 => ?_)
    · exact tl (fun q => q.2.1 (zB.mp c2))
    · have eb : rt b ≠ 0 := fun q => c2 (zB.mpr q)
      have hzA := (nth_in (g := g) (i := rt a) (z := ((nd g (rt a)).length : Int) - 1) (by have := nd_ne hw ea han; omega) (by omega)).2
      have hzB := (nth_in (g := g) (i := rt b) (z := 0) (by omega) (by have := nd_ne hw eb hbn; omega)).2
      obtain ⟨-, ⟨⟨p1, p2⟩, -, p3, -⟩, -⟩ := hr.2.1 _ ⟨a, a1, a2, hzA⟩
      obtain ⟨-, ⟨⟨q1, q2⟩, -, q3, -⟩, -⟩ := hr.2.1 _ ⟨b, b1, b2, hzB⟩
      refine rdA.mk (pl (nth g (rt a) (((nd g (rt a)).length : Int) - 1))) rfl (by omega) (by omega) ?_
      refine rdA.mk (pl (nth g (rt b) 0)) rfl (by omega) (by omega) ?_
      rw [p3, q3]
      refine brN.mk (fun c3 => ?_) (fun c3 => ?_)
      · exact tl (fun q => q.2.2 c3)
      · exact hmx ⟨ea, eb, c3⟩
end OpsC3
