/-! both sides over one log: each call answers alike and keeps it -/
section SimL
def Sim (C V : Nat) (s m : CS) : Prop := ∃ g n pl rl lv rt sd us sw, CR C V s g n pl lv rt sd us sw ∧ MR C V m g n rl lv rt sd us sw
variable {C V : Nat} {s m : CS}
theorem Sim.ofA {A : AS} {pl rl : Nat → Nat} (h1 : CRa C V s pl A) (h2 : lvA V A ≤ C → MRa C V m rl A) : Sim C V s m :=
  ⟨A.1, A.2.1, pl, rl, A.2.2.1, A.2.2.2.1, A.2.2.2.2.1, A.2.2.2.2.2.1, A.2.2.2.2.2.2, h1, h2 (CR.lvc h1)⟩
/-- a version that isn't live: the updates of both refuse -/
theorem m_bad {g : LG} {n : Nat} {rl : Nat → Nat} {lv : Nat → Bool} {rt : Nat → Nat} {sd sw : Int32} {us : Nat} {x : Int32} (H : MR C V m g n rl lv rt sd us sw) (hq : ¬ ∃ h, h < V ∧ x = nI h ∧ lv h = true) {P K : CS → Prop} (hp : ∀ s2, MR C V s2 g n rl lv rt sd us sw → P s2) :
    stF m 0 0 (fun u1 => wp_X3_has x u1 (fun r3 u2 => brN (r3 = 0) (P u2) (K u2))) := by
  refine stF.mk ?_
  have H1 := MR_sam H (sam.cs (J := [0]) (i := 0) (f := fun _ => 0) (by decide)) (by decide)
  generalize cset m 0 (fun _ => 0) = s1 at H1 ⊢
  exact has_spec H1 (fun h h1 e h2 => absurd ⟨h, h1, e, h2⟩ hq) (fun _ => brN.mt rfl (hp s1 H1))
theorem sim_put (S : Sim C V s m) (x k v : Int32) : wp_X2_put C V x k v s (fun r s' => wp_X3_put x k v m (fun r' m' => r = r' ∧ Sim C V s' m')) := by
  obtain ⟨g, n, pl, rl, lv, rt, sd, us, sw, H, M⟩ := S
  by_cases hq : ∃ h, h < V ∧ x = nI h ∧ lv h = true
  · obtain ⟨h, h1, rfl, h2⟩ := hq
    exact put_spec H h1 h2 (fun pl' s2 hC => putM_spec M h1 h2 (fun rl2 s3 hM => ⟨rfl, Sim.ofA hC hM⟩))
  · unfold wp_X2_put
    refine isLive_spec H (fun h h1 e h2 => absurd ⟨h, h1, e, h2⟩ hq) (fun _ => brN.mt rfl ?_)
    unfold wp_X3_put
    exact m_bad (P := fun m' => (-1 : Int32) = -1 ∧ Sim C V s m') M hq (fun s2 M2 => ⟨rfl, g, n, pl, rl, lv, rt, sd, us, sw, H, M2⟩)
theorem sim_remove (S : Sim C V s m) (x k : Int32) : wp_X2_remove C V x k s (fun r s' => wp_X3_remove x k m (fun r' m' => r = r' ∧ Sim C V s' m')) := by
  obtain ⟨g, n, pl, rl, lv, rt, sd, us, sw, H, M⟩ := S
  by_cases hq : ∃ h, h < V ∧ x = nI h ∧ lv h = true
  · obtain ⟨h, h1, rfl, h2⟩ := hq
    exact remove_spec H h1 h2 (fun pl' s2 hC => removeM_spec M h1 h2 (fun rl2 s3 hM => ⟨rfl, Sim.ofA hC hM⟩))
  · unfold wp_X2_remove
    refine isLive_spec H (fun h h1 e h2 => absurd ⟨h, h1, e, h2⟩ hq) (fun _ => brN.mt rfl ?_)
    unfold wp_X3_remove
    exact m_bad (P := fun m' => (-1 : Int32) = -1 ∧ Sim C V s m') M hq (fun s2 M2 => ⟨rfl, g, n, pl, rl, lv, rt, sd, us, sw, H, M2⟩)
theorem sim_below (S : Sim C V s m) (x k : Int32) : wp_X2_below C V x k s (fun r s' => wp_X3_below x k m (fun r' m' => r = r' ∧ Sim C V s' m')) := by
  obtain ⟨g, n, pl, rl, lv, rt, sd, us, sw, H, M⟩ := S
  by_cases hq : ∃ h, h < V ∧ x = nI h ∧ lv h = true
  · obtain ⟨h, h1, rfl, h2⟩ := hq
    exact below_spec H h1 h2 (fun pl' s2 hC => belowM_spec M h1 h2 (fun rl2 s3 hM => ⟨rfl, Sim.ofA hC hM⟩))
  · unfold wp_X2_below
    refine isLive_spec H (fun h h1 e h2 => absurd ⟨h, h1, e, h2⟩ hq) (fun _ => brN.mt rfl ?_)
    unfold wp_X3_below
    exact m_bad (P := fun m' => (-1 : Int32) = -1 ∧ Sim C V s m') M hq (fun s2 M2 => ⟨rfl, g, n, pl, rl, lv, rt, sd, us, sw, H, M2⟩)
theorem sim_join (S : Sim C V s m) (x y : Int32) : wp_X2_join C V x y s (fun r s' => wp_X3_join x y m (fun r' m' => r = r' ∧ Sim C V s' m')) := by
  obtain ⟨g, n, pl, rl, lv, rt, sd, us, sw, H, M⟩ := S
  by_cases hq : ∃ h, h < V ∧ x = nI h ∧ lv h = true
  · by_cases hq2 : ∃ h, h < V ∧ y = nI h ∧ lv h = true
    · obtain ⟨a, a1, rfl, a2⟩ := hq
      obtain ⟨b, b1, rfl, b2⟩ := hq2
      refine join_spec H a1 a2 b1 b2 (fun hx => ?_) (fun hx pl' s2 hC => ?_)
      · exact joinM_spec M a1 a2 b1 b2 (fun _ s2 M2 => ⟨rfl, g, n, pl, rl, lv, rt, sd, us, sw, H, M2⟩) (fun hx2 => absurd hx hx2)
      · exact joinM_spec M a1 a2 b1 b2 (fun hx2 => absurd hx2 hx) (fun _ rl2 s3 hM => ⟨rfl, Sim.ofA hC hM⟩)
    · unfold wp_X2_join
      refine isLive_spec H (fun h h1 e h2 => brN.mf (by decide) ?_) (fun q => absurd hq q)
      refine isLive_spec H (fun h h1 e h2 => absurd ⟨h, h1, e, h2⟩ hq2) (fun _ => brN.mt rfl ?_)
      unfold wp_X3_join
      refine stF.mk ?_
      have H1 := MR_sam M (sam.cs (J := [0]) (i := 0) (f := fun _ => 0) (by decide)) (by decide)
      generalize cset m 0 (fun _ => 0) = s1 at H1 ⊢
      refine has_spec H1 (fun h h1 e h2 => brN.mf (by decide) ?_) (fun q => absurd hq q)
      exact has_spec H1 (fun h h1 e h2 => absurd ⟨h, h1, e, h2⟩ hq2) (fun _ => brN.mt rfl ⟨rfl, g, n, pl, rl, lv, rt, sd, us, sw, H, H1⟩)
  · unfold wp_X2_join
    refine isLive_spec H (fun h h1 e h2 => absurd ⟨h, h1, e, h2⟩ hq) (fun _ => brN.mt rfl ?_)
    unfold wp_X3_join
    exact m_bad (P := fun m' => (-1 : Int32) = -1 ∧ Sim C V s m') M hq (fun s2 M2 => ⟨rfl, g, n, pl, rl, lv, rt, sd, us, sw, H, M2⟩)
theorem nI_inj {V h j : Nat} (hV : V ≤ 8) (h1 : h < V) (j1 : j < V) (e : nI h = nI j) : h = j := (nI_eq (by omega) (by omega)).mp e
theorem CR.V8 {g : LG} {n : Nat} {pl : Nat → Nat} {lv : Nat → Bool} {rt : Nat → Nat} {sd sw : Int32} {us : Nat} (H : CR C V s g n pl lv rt sd us sw) : V ≤ 8 := H.2.1.2
theorem sim_drop (S : Sim C V s m) (x : Int32) : wp_X2_drop C V x s (fun r s' => wp_X3_drop x m (fun r' m' => r = r' ∧ Sim C V s' m')) := by
  obtain ⟨g, n, pl, rl, lv, rt, sd, us, sw, H, M⟩ := S
  refine drop_spec H (fun h h1 e h2 s2 H2 => ?_) (fun q => ?_)
  · refine dropM_spec M (fun j j1 e2 j2 s3 M2 => ?_) (fun q => absurd ⟨h, h1, e, h2⟩ q)
    have hj := nI_inj H.V8 h1 j1 (e.symm.trans e2)
    subst hj
    exact ⟨rfl, g, n, pl, rl, _, rt, sd, us, sw, H2, M2 H2.lvc⟩
  · exact dropM_spec M (fun j j1 e2 j2 => absurd ⟨j, j1, e2, j2⟩ q) (fun _ s3 M2 => ⟨rfl, g, n, pl, rl, lv, rt, sd, us, sw, H, M2⟩)
theorem sim_isLive (S : Sim C V s m) (x : Int32) : wp_X2_isLive C V x s (fun r s' => wp_X3_isLive x m (fun r' m' => r = r' ∧ Sim C V s' m')) := by
  obtain ⟨g, n, pl, rl, lv, rt, sd, us, sw, H, M⟩ := S
  refine isLive_spec H (fun h h1 e h2 => ?_) (fun q => ?_)
  · exact isLiveM_spec M (fun j j1 e2 j2 s3 M2 => ⟨rfl, g, n, pl, rl, lv, rt, sd, us, sw, H, M2⟩) (fun q => absurd ⟨h, h1, e, h2⟩ q)
  · exact isLiveM_spec M (fun j j1 e2 j2 => absurd ⟨j, j1, e2, j2⟩ q) (fun _ s3 M2 => ⟨rfl, g, n, pl, rl, lv, rt, sd, us, sw, H, M2⟩)
theorem sim_contains (S : Sim C V s m) (x k : Int32) : wp_X2_contains C V x k s (fun r s' => wp_X3_contains x k m (fun r' m' => r = r' ∧ Sim C V s' m')) := by
  obtain ⟨g, n, pl, rl, lv, rt, sd, us, sw, H, M⟩ := S
  refine contains_spec H (fun h h1 e h2 s2 H2 => ?_) (fun q => ?_)
  · refine containsM_spec M (fun j j1 e2 j2 s3 M2 => ?_) (fun q => absurd ⟨h, h1, e, h2⟩ q)
    have hj := nI_inj H.V8 h1 j1 (e.symm.trans e2)
    subst hj
    exact ⟨rfl, g, n, pl, rl, lv, rt, sd, us, sw, H2, M2⟩
  · exact containsM_spec M (fun j j1 e2 j2 => absurd ⟨j, j1, e2, j2⟩ q) (fun _ s3 M2 => ⟨rfl, g, n, pl, rl, lv, rt, sd, us, sw, H, M2⟩)
theorem sim_size (S : Sim C V s m) (x : Int32) : wp_X2_size C V x s (fun r s' => wp_X3_size x m (fun r' m' => r = r' ∧ Sim C V s' m')) := by
  obtain ⟨g, n, pl, rl, lv, rt, sd, us, sw, H, M⟩ := S
  refine size_spec H (fun h h1 e h2 => ?_) (fun q => ?_)
  · refine sizeM_spec M (fun j j1 e2 j2 s3 M2 => ?_) (fun q => absurd ⟨h, h1, e, h2⟩ q)
    have hj := nI_inj H.V8 h1 j1 (e.symm.trans e2)
    subst hj
    exact ⟨rfl, g, n, pl, rl, lv, rt, sd, us, sw, H, M2⟩
  · exact sizeM_spec M (fun j j1 e2 j2 => absurd ⟨j, j1, e2, j2⟩ q) (fun _ s3 M2 => ⟨rfl, g, n, pl, rl, lv, rt, sd, us, sw, H, M2⟩)
theorem sim_sum (S : Sim C V s m) (x lo hi : Int32) : wp_X2_sum C V x lo hi s (fun r s' => wp_X3_sum x lo hi m (fun r' m' => r = r' ∧ Sim C V s' m')) := by
  obtain ⟨g, n, pl, rl, lv, rt, sd, us, sw, H, M⟩ := S
  refine sum_spec H (fun h h1 e h2 s2 H2 => ?_) (fun q => ?_)
  · refine sumM_spec M (fun j j1 e2 j2 s3 M2 => ?_) (fun q => absurd ⟨h, h1, e, h2⟩ q)
    have hj := nI_inj H.V8 h1 j1 (e.symm.trans e2)
    subst hj
    exact ⟨rfl, g, n, pl, rl, lv, rt, sd, us, sw, H2, M2⟩
  · exact sumM_spec M (fun j j1 e2 j2 => absurd ⟨j, j1, e2, j2⟩ q) (fun _ s3 M2 => ⟨rfl, g, n, pl, rl, lv, rt, sd, us, sw, H, M2⟩)
theorem sim_shared (S : Sim C V s m) (x y : Int32) : wp_X2_shared C V x y s (fun r s' => wp_X3_shared x y m (fun r' m' => r = r' ∧ Sim C V s' m')) := by
  obtain ⟨g, n, pl, rl, lv, rt, sd, us, sw, H, M⟩ := S
  refine shared_spec H (fun h i h1 e h2 i1 ei i2 s2 H2 => ?_) (fun q => ?_)
  · refine sharedM_spec M (fun j k j1 e2 j2 k1 ek k2 s3 M2 => ?_) (fun q => (q.elim (fun q => q ⟨h, h1, e, h2⟩) (fun q => q ⟨i, i1, ei, i2⟩)).elim)
    have hj := nI_inj H.V8 h1 j1 (e.symm.trans e2)
    have hk := nI_inj H.V8 i1 k1 (ei.symm.trans ek)
    subst hj; subst hk
    exact ⟨rfl, g, n, pl, rl, lv, rt, sd, us, sw, H2, M2⟩
  · exact sharedM_spec M (fun j k j1 e2 j2 k1 ek k2 => (q.elim (fun q => q ⟨j, j1, e2, j2⟩) (fun q => q ⟨k, k1, ek, k2⟩)).elim) (fun _ s3 M2 => ⟨rfl, g, n, pl, rl, lv, rt, sd, us, sw, H, M2⟩)
theorem sim_nodes (S : Sim C V s m) : wp_X2_nodes C V s (fun r s' => wp_X3_nodes m (fun r' m' => r = r' ∧ Sim C V s' m')) := by
  obtain ⟨g, n, pl, rl, lv, rt, sd, us, sw, H, M⟩ := S
  exact nodes_spec H (fun s2 H2 => nodesM_spec M (fun s3 M2 => ⟨rfl, g, n, pl, rl, lv, rt, sd, us, sw, H2, M2⟩))
theorem sim_used (S : Sim C V s m) : wp_X2_used C V s (fun r s' => wp_X3_used m (fun r' m' => r = r' ∧ Sim C V s' m')) := by
  obtain ⟨g, n, pl, rl, lv, rt, sd, us, sw, H, M⟩ := S
  exact used_spec H (usedM_spec M (fun s3 M2 => ⟨rfl, g, n, pl, rl, lv, rt, sd, us, sw, H, M2⟩))
theorem sim_sweeps (S : Sim C V s m) : wp_X2_sweeps C V s (fun r s' => wp_X3_sweeps m (fun r' m' => r = r' ∧ Sim C V s' m')) := by
  obtain ⟨g, n, pl, rl, lv, rt, sd, us, sw, H, M⟩ := S
  exact sweeps_spec H (sweepsM_spec M (fun s3 M2 => ⟨rfl, g, n, pl, rl, lv, rt, sd, us, sw, H, M2⟩))
end SimL
section SimT
variable {C V : Nat} {s m : CS}
/-- what the law asks of an answer k, out against the reference's b and thrown -/
def ansL (C V : Nat) (s : CS) (f : Nat → Int64) (k b : Int32) (m : CS) : Prop := m 0 0 = k ∧ (k = 0 → f 0 = b.toInt64) ∧ Sim C V s m
theorem updL_0 (f : Nat → Int64) (x : Int64) : vp_updL f 0 x 0 = x := by simp [vp_updL]
theorem pl_0 {g : LG} {n : Nat} {pl : Nat → Nat} {lv : Nat → Bool} {rt : Nat → Nat} {sd sw : Int32} {us : Nat} (H : CR C V s g n pl lv rt sd us sw) {h : Nat} (h1 : h < V) (h2 : lv h = true) {i : Nat} (hi : i = 0 ∨ i ∈ nd g (rt h)) : (nI (pl i) = 0 ↔ i = 0) ∧ (i = 0 ∨ liv g lv rt V i) ∧ pl i ≤ C := by
  obtain ⟨⟨hC1, hC⟩, ⟨hV1, hV⟩, hw, hrt, hr, -⟩ := id H
  have hfl : i = 0 ∨ liv g lv rt V i := hi.imp id (fun hi => ⟨h, h1, h2, hi⟩)
  have hle := hr.le hfl
  refine ⟨?_, hfl, hle⟩
  rw [show (0 : Int32) = nI 0 from rfl, nI_eq (by omega) (by decide), hr.pos hfl]
theorem sim_get (S : Sim C V s m) (x k : Int32) (f : Nat → Int64) : wp_X2_get C V x k s (fun r s' => wp_X3_get x k m (ansL C V s' (vp_updL f 0 r.toInt64) 0)) (fun E s' => E = sNSE ∧ wp_X3_get x k m (ansL C V s' f 1)) := by
  obtain ⟨g, n, pl, rl, lv, rt, sd, us, sw, H, M⟩ := S
  unfold wp_X2_get
  refine nodeWith_spec H (fun h h1 e h2 s2 H2 _ => ?_) (fun q => brN.mt rfl ⟨rfl, ?_⟩)
  · obtain ⟨⟨hC1, hC⟩, ⟨hV1, hV⟩, hw, hrt, hr, -⟩ := id H2
    have hf0 : fnd g k (rt h) = 0 ∨ fnd g k (rt h) ∈ nd g (rt h) := by
      by_cases e0 : fnd g k (rt h) = 0
      · exact Or.inl e0
      · exact Or.inr (fnd_mem hw k _ (hrt h h1 h2) e0).1
    obtain ⟨e1, hl, hle⟩ := pl_0 H2 h1 h2 hf0
    refine brN.mk (fun c => ⟨rfl, ?_⟩) (fun c => ?_)
    · refine getM_spec M (fun j j1 e2 j2 hj => ?_) (fun _ s3 M2 t => ⟨t, fun c => absurd c (by decide), g, n, pl, rl, lv, rt, sd, us, sw, H2, M2⟩)
      have hj' := nI_inj H.V8 h1 j1 (e.symm.trans e2)
      subst hj'
      exact absurd (e1.mp c) hj
    · have c' : fnd g k (rt h) ≠ 0 := fun e0 => c (e1.mpr e0)
      refine rdA.mk _ rfl (by omega) (by omega) ?_
      rw [(hr.2.1 _ (hl.resolve_left c')).2.1.2.2.2.1]
      refine getM_spec M (fun j j1 e2 j2 hj s3 M2 t => ?_) (fun q => absurd ⟨h, h1, e, h2, c'⟩ q)
      have hj' := nI_inj H.V8 h1 j1 (e.symm.trans e2)
      subst hj'
      exact ⟨t, fun _ => updL_0 _ _, g, n, pl, rl, lv, rt, sd, us, sw, H2, M2⟩
  · exact getM_spec M (fun j j1 e2 j2 _ => absurd ⟨j, j1, e2, j2⟩ q) (fun _ s3 M2 t => ⟨t, fun c => absurd c (by decide), g, n, pl, rl, lv, rt, sd, us, sw, H, M2⟩)
theorem sim_depth (S : Sim C V s m) (x k : Int32) (f : Nat → Int64) : wp_X2_depth C V x k s (fun r s' => wp_X3_depth x k m (ansL C V s' (vp_updL f 0 r.toInt64) 0)) (fun E s' => E = sNSE ∧ wp_X3_depth x k m (ansL C V s' f 1)) := by
  obtain ⟨g, n, pl, rl, lv, rt, sd, us, sw, H, M⟩ := S
  unfold wp_X2_depth
  refine nodeWith_spec H (fun h h1 e h2 s2 H2 hnt => ?_) (fun q => brN.mt rfl ⟨rfl, ?_⟩)
  · obtain ⟨⟨hC1, hC⟩, ⟨hV1, hV⟩, hw, hrt, hr, -⟩ := id H2
    have hf0 : fnd g k (rt h) = 0 ∨ fnd g k (rt h) ∈ nd g (rt h) := by
      by_cases e0 : fnd g k (rt h) = 0
      · exact Or.inl e0
      · exact Or.inr (fnd_mem hw k _ (hrt h h1 h2) e0).1
    obtain ⟨e1, hl, hle⟩ := pl_0 H2 h1 h2 hf0
    refine brN.mk (fun c => ⟨rfl, ?_⟩) (fun c => ?_)
    · refine depthM_spec M (fun j j1 e2 j2 hj => ?_) (fun _ s3 M2 t => ⟨t, fun c => absurd c (by decide), g, n, pl, rl, lv, rt, sd, us, sw, H2, M2⟩)
      have hj' := nI_inj H.V8 h1 j1 (e.symm.trans e2)
      subst hj'
      exact absurd (e1.mp c) hj
    · have c' : fnd g k (rt h) ≠ 0 := fun e0 => c (e1.mpr e0)
      refine nmI.mk ?_
      rw [hnt.1]
      refine depthM_spec M (fun j j1 e2 j2 hj s3 M2 t => ?_) (fun q => absurd ⟨h, h1, e, h2, c'⟩ q)
      have hj' := nI_inj H.V8 h1 j1 (e.symm.trans e2)
      subst hj'
      exact ⟨t, fun _ => updL_0 _ _, g, n, pl, rl, lv, rt, sd, us, sw, H2, M2⟩
  · exact depthM_spec M (fun j j1 e2 j2 _ => absurd ⟨j, j1, e2, j2⟩ q) (fun _ s3 M2 t => ⟨t, fun c => absurd c (by decide), g, n, pl, rl, lv, rt, sd, us, sw, H, M2⟩)
theorem sim_floor (S : Sim C V s m) (x k : Int32) (f : Nat → Int64) : wp_X2_floor C V x k s (fun r s' => wp_X3_floor x k m (ansL C V s' (vp_updL f 0 r.toInt64) 0)) (fun E s' => E = sNSE ∧ wp_X3_floor x k m (ansL C V s' f 1)) := by
  obtain ⟨g, n, pl, rl, lv, rt, sd, us, sw, H, M⟩ := S
  have hsz := fun {h} => H.size (h := h)
  obtain ⟨⟨hC1, hC⟩, ⟨hV1, hV⟩, hw, hrt, hr, hlv, hro, -⟩ := id H
  unfold wp_X2_floor
  refine isLive_spec H (fun h h1 e h2 => brN.mf (by decide) ?_) (fun q => brN.mt rfl ⟨rfl, ?_⟩)
  · refine rdA.mk h e h1 (by omega) ?_
    rw [hro h h1 h2]
    refine floorNode_spec hr hw hC (liv_rt hw hrt h1 h2) (hrt h h1 h2) (hsz h1 h2) ?_
    obtain ⟨e1, hl, hle⟩ := pl_0 H h1 h2 (flr_mem hw k (rt h) 0 (hrt h h1 h2))
    refine brN.mk (fun c => ⟨rfl, ?_⟩) (fun c => ?_)
    · refine floorM_spec M (fun j j1 e2 j2 hj => ?_) (fun _ s3 M2 t r => ⟨t, fun c => absurd c (by decide), g, n, pl, rl, lv, rt, sd, us, sw, H, M2⟩)
      have hj' := nI_inj H.V8 h1 j1 (e.symm.trans e2)
      subst hj'
      exact absurd (e1.mp c) hj
    · have c' : flr g k 0 (rt h) ≠ 0 := fun e0 => c (e1.mpr e0)
      refine rdA.mk _ rfl (by omega) (by omega) ?_
      rw [(hr.2.1 _ (hl.resolve_left c')).2.1.2.2.1]
      refine floorM_spec M (fun j j1 e2 j2 hj s3 M2 t => ?_) (fun q => absurd ⟨h, h1, e, h2, c'⟩ q)
      have hj' := nI_inj H.V8 h1 j1 (e.symm.trans e2)
      subst hj'
      exact ⟨t, fun _ => updL_0 _ _, g, n, pl, rl, lv, rt, sd, us, sw, H, M2⟩
  · exact floorM_spec M (fun j j1 e2 j2 _ => absurd ⟨j, j1, e2, j2⟩ q) (fun _ s3 M2 t r => ⟨t, fun c => absurd c (by decide), g, n, pl, rl, lv, rt, sd, us, sw, H, M2⟩)
theorem sim_keyAt (S : Sim C V s m) (x z : Int32) (f : Nat → Int64) : wp_X2_keyAt C V x z s (fun r s' => wp_X3_keyAt x z m (ansL C V s' (vp_updL f 0 r.toInt64) 0)) (fun E s' => (E = sNSE ∧ wp_X3_keyAt x z m (ansL C V s' f 1)) ∨ (E = sIOB ∧ wp_X3_keyAt x z m (ansL C V s' f 2))) := by
  obtain ⟨g, n, pl, rl, lv, rt, sd, us, sw, H, M⟩ := S
  have hsz := fun {h} => H.size (h := h)
  obtain ⟨⟨hC1, hC⟩, ⟨hV1, hV⟩, hw, hrt, hr, hlv, hro, -⟩ := id H
  unfold wp_X2_keyAt
  refine isLive_spec H (fun h h1 e h2 => brN.mf (by decide) ?_) (fun q => brN.mt rfl (Or.inl ⟨rfl, ?_⟩))
  · refine rdA.mk h e h1 (by omega) ?_
    rw [hro h h1 h2]
    refine nodeAt_spec hr hw hC (liv_rt hw hrt h1 h2) (hrt h h1 h2) (hsz h1 h2) ?_
    obtain ⟨e1, hl, hle⟩ := pl_0 H h1 h2 (nth_mem (g := g) (i := rt h) (z := z.toInt))
    refine brN.mk (fun c => Or.inr ⟨rfl, ?_⟩) (fun c => ?_)
    · refine keyAtM_spec M (fun j j1 e2 j2 hj => ?_) (fun q => absurd ⟨h, h1, e, h2⟩ q) (fun j j1 e2 j2 _ s3 M2 t => ⟨t, fun c => absurd c (by decide), g, n, pl, rl, lv, rt, sd, us, sw, H, M2⟩)
      have hj' := nI_inj H.V8 h1 j1 (e.symm.trans e2)
      subst hj'
      exact absurd (e1.mp c) hj
    · have c' : nth g (rt h) z.toInt ≠ 0 := fun e0 => c (e1.mpr e0)
      refine rdA.mk _ rfl (by omega) (by omega) ?_
      rw [(hr.2.1 _ (hl.resolve_left c')).2.1.2.2.1]
      refine keyAtM_spec M (fun j j1 e2 j2 hj s3 M2 t => ?_) (fun q => absurd ⟨h, h1, e, h2⟩ q) (fun j j1 e2 j2 hj => ?_)
      · have hj' := nI_inj H.V8 h1 j1 (e.symm.trans e2)
        subst hj'
        exact ⟨t, fun _ => updL_0 _ _, g, n, pl, rl, lv, rt, sd, us, sw, H, M2⟩
      · have hj' := nI_inj H.V8 h1 j1 (e.symm.trans e2)
        subst hj'
        exact absurd hj c'
  · exact keyAtM_spec M (fun j j1 e2 j2 _ => absurd ⟨j, j1, e2, j2⟩ q) (fun _ s3 M2 t => ⟨t, fun c => absurd c (by decide), g, n, pl, rl, lv, rt, sd, us, sw, H, M2⟩) (fun j j1 e2 j2 _ => absurd ⟨j, j1, e2, j2⟩ q)
end SimT
