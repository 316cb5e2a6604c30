/-! the reference's updates against the log -/
def MRa (C V : Nat) (s : CS) (rl : Nat → Nat) (A : AS) : Prop := MR C V s A.1 A.2.1 rl A.2.2.1 A.2.2.2.1 A.2.2.2.2.1 A.2.2.2.2.2.1 A.2.2.2.2.2.2
def lvA (V : Nat) (A : AS) : Nat := lvc A.1 A.2.2.1 A.2.2.2.1 V
theorem repM_sub {s : CS} {g : LG} {rl : Nat → Nat} {S S' : Nat → Prop} (h : repM s g rl S) (hs : ∀ i, S' i → S i) (hc : ∀ i, S' i → (gL g i ≠ 0 → S' (gL g i)) ∧ (gR g i ≠ 0 → S' (gR g i))) : repM s g rl S' := by
  refine ⟨fun i hi => ?_, fun i j hi hj e => h.2 i j (hs i hi) (hs j hj) e⟩
  obtain ⟨a, b, -, -⟩ := h.1 i (hs i hi)
  exact ⟨a, b, (hc i hi).1, (hc i hi).2⟩
section OpsM
variable {C V n : Nat} {s : CS} {g : LG} {rl : Nat → Nat} {lv : Nat → Bool} {rt : Nat → Nat} {sd sw : Int32} {us : Nat}
theorem openM (H : MR C V s g n rl lv rt sd us sw) {h : Nat} (hh : h < V) {g' : LG} {rl' : Nat → Nat} {n' t : Nat} (hr : repM s g' rl' (Sup (liv g lv rt V) n n')) (h19 : s 19 0 = mI rl' t) (hw' : wfG g' n') (ha : agr g g' n) (hn : n ≤ n') (ht : t ≤ n') (htS : t = 0 ∨ Sup (liv g lv rt V) n n' t) (hpx : plx rl rl' n) {post : Int32 → CS → Prop}
    (hp : ∀ s2, (lvc g' (upn lv h true) (upn rt h t) V ≤ C → MR C V s2 g' n' rl' (upn lv h true) (upn rt h t) sd us sw) → post (nI h) s2) : wrZ s 15 8 (nI h) 1 (fun u => nmI (u 19 0) (fun z => wrA u 16 8 (nI h) z (fun u2 => post (nI h) u2))) := by
  obtain ⟨⟨hC, hV⟩, hw, hrt, -, hlv, hro, e1, e2, e3, e4, e5, hus, -⟩ := H
  refine wrZ.mk h rfl (by omega) (by omega) isB_1 (nmI.mk (wrA.mk h rfl (by omega) (by omega) (hp _ (fun hlc => ?_))))
  have hrt' : ∀ j, j < V → upn lv h true j = true → upn rt h t j ≤ n' := by
    intro j hj hl
    by_cases e : j = h
    · rw [e, upn_eq]; exact ht
    · rw [upn_ne _ _ e] at hl ⊢; have := hrt j hj hl; omega
  have hsub : ∀ i, liv g' (upn lv h true) (upn rt h t) V i → Sup (liv g lv rt V) n n' i := by
    rintro i ⟨j, j1, j2, j3⟩
    by_cases e : j = h
    · rw [e, upn_eq] at j3
      have : t ≠ 0 := fun e0 => by rw [e0, nd_0] at j3; cases j3
      exact repM_nd hr hw' ht (htS.resolve_left this) i j3
    · rw [upn_ne _ _ e] at j2 j3
      rw [ha.nd (hrt j j1 j2)] at j3
      exact Or.inl ⟨j, j1, j2, j3⟩
  have h19' : cset s 15 (upd (s 15) h 1) 19 0 = mI rl' t := by rw [cset_ne _ _ (by decide)]; exact h19
  rw [h19']
  have hx : ∀ j, j ≠ 15 → j ≠ 16 → cset (cset s 15 (upd (s 15) h 1)) 16 (upd (cset s 15 (upd (s 15) h 1) 16) h (mI rl' t)) j = s j := by
    intro j h1 h2; rw [cset_ne _ _ h2, cset_ne _ _ h1]
  refine ⟨⟨hC, hV⟩, hw', hrt', ?_, fun j hj => ?_, fun j hj hl => ?_, by rw [hx 1 (by decide) (by decide)]; exact e1, by rw [hx 2 (by decide) (by decide)]; exact e2, by rw [hx 3 (by decide) (by decide)]; exact e3, by rw [hx 4 (by decide) (by decide)]; exact e4, by rw [hx 5 (by decide) (by decide)]; exact e5, hus, hlc⟩
  · exact (repM_sub hr hsub (liv_clo hw' hrt')).sam (J := [15, 16]) (fun j hj => by simp at hj; exact hx j hj.1 hj.2) (by decide)
  · rw [cset_ne _ _ (by decide), cset_eq, upd_ap]
    by_cases e : j = h
    · rw [if_pos e, e, upn_eq]; rfl
    · rw [if_neg e, upn_ne _ _ e]; exact hlv j hj
  · rw [cset_eq, upd_ap]
    by_cases e : j = h
    · rw [if_pos e, e, upn_eq]
    · rw [if_neg e, upn_ne _ _ e, cset_ne _ _ (by decide)]
      rw [upn_ne _ _ e] at hl
      rw [hro j hj hl]
      unfold mI; rw [hpx _ (hrt j hj hl)]
theorem settle_spec (H : MR C V s g n rl lv rt sd us sw) {h : Nat} (hf : frH lv V = some h) (hh : h < V) {m : Nat} (hm : m ≤ 100) (h17 : s 17 0 = nI m) {g' : LG} {rl' : Nat → Nat} {n' t : Nat} (hr : repM s g' rl' (Sup (liv g lv rt V) n n')) (h19 : s 19 0 = mI rl' t) (hw' : wfG g' n') (ha : agr g g' n) (hn : n ≤ n') (ht : t ≤ n') (htS : t = 0 ∨ Sup (liv g lv rt V) n n' t) (hpx : plx rl rl' n) {post : Int32 → CS → Prop}
    (hp : ∀ rl2 s2, (lvA V (aup C V g n lv rt sd us sw m g' n' t sd).2 ≤ C → MRa C V s2 rl2 (aup C V g n lv rt sd us sw m g' n' t sd).2) → post (aup C V g n lv rt sd us sw m g' n' t sd).1 s2) : wp_X3_settle (nI h) s post := by
  unfold aup at hp
  rw [hf] at hp
  unfold wp_X3_settle
  refine nmI.mk ?_
  rw [h17]
  refine takes_spec H hm (fun q s' H' hs' => ?_) (fun q s' hs' hm' hc' => ⟨fun q2 H' => ?_, fun q2 H' => ?_⟩)
  · simp only [if_pos q] at hp
    exact brN.mf (by decide) (openM H' hh (hr.sam hs' (by decide)) (by rw [hs'.at 19]; exact h19) hw' ha hn ht htS hpx (fun s2 h2 => hp rl' s2 h2))
  · simp only [if_neg q, if_pos q2] at hp
    exact brN.mf (by decide) (openM H' hh (hr.sam hs' (by decide)) (by rw [hs'.at 19]; exact h19) hw' ha hn ht htS hpx (fun s2 h2 => hp rl' s2 h2))
  · simp only [if_neg q, if_neg q2] at hp
    exact brN.mt rfl (hp rl s' (fun _ => H'))
/-- an update is being built -/
def BS (s0 s : CS) (g : LG) (rl : Nat → Nat) (S : Nat → Prop) (k : Int32) (l : List (Nat × Nat)) (v : Int32) (fr : Nat) : Prop :=
  repM s g rl S ∧ lvM s rl S ∧ (∃ nx, nx ≤ 160 ∧ WS s fr nx ∧ HB s g rl k nx l v) ∧ sam [6, 7, 8, 9, 10, 17, 18, 19, 20, 21] s0 s ∧ (∀ q ∈ l, S q.1)
theorem begin_spec (H : MR C V s g n rl lv rt sd us sw) {post : CS → Prop} (hp : ∀ s', MR C V s' g n rl lv rt sd us sw → (∀ k, BS s' s' g rl (liv g lv rt V) k [] (-1) 0) → sam [11, 13, 14, 17, 18, 19, 20] s s' → post s') : wp_X3_begin s post := by
  obtain ⟨⟨hC, hV⟩, hw, hrt, hr, hlv, hro, e1, e2, e3, e4, e5, hus, hlc⟩ := id H
  unfold wp_X3_begin
  refine markAll_spec H (fun s1 hs1 hm1 hc1 => stF.mk (stF.mk (stF.mk (stF.mk ?_))))
  have hs2 : sam [11, 13, 14, 17, 18, 19, 20] s (cset (cset (cset (cset s1 17 (fun _ => 0)) 18 (fun _ => 0)) 19 (fun _ => -1)) 20 (fun _ => -1)) := (((((hs1.up (by decide)).tr (sam.cs (by decide))).tr (sam.cs (by decide))).tr (sam.cs (by decide))).tr (sam.cs (by decide)))
  have t11 : cset (cset (cset (cset s1 17 (fun _ => 0)) 18 (fun _ => 0)) 19 (fun _ => -1)) 20 (fun _ => -1) 11 = s1 11 := by simp [cset_ap]
  have t17 : cset (cset (cset (cset s1 17 (fun _ => 0)) 18 (fun _ => 0)) 19 (fun _ => -1)) 20 (fun _ => -1) 17 0 = 0 := by simp [cset_ap]
  have t18 : cset (cset (cset (cset s1 17 (fun _ => 0)) 18 (fun _ => 0)) 19 (fun _ => -1)) 20 (fun _ => -1) 18 0 = 0 := by simp [cset_ap]
  have t19 : cset (cset (cset (cset s1 17 (fun _ => 0)) 18 (fun _ => 0)) 19 (fun _ => -1)) 20 (fun _ => -1) 19 0 = -1 := by simp [cset_ap]
  have t20 : cset (cset (cset (cset s1 17 (fun _ => 0)) 18 (fun _ => 0)) 19 (fun _ => -1)) 20 (fun _ => -1) 20 0 = -1 := by simp [cset_ap]
  generalize cset (cset (cset (cset s1 17 (fun _ => 0)) 18 (fun _ => 0)) 19 (fun _ => -1)) 20 (fun _ => -1) = s2 at hs2 t11 t17 t18 t19 t20 ⊢
  refine hp s2 (MR_sam H hs2 (by decide)) (fun k => ⟨hr.sam hs2 (by decide), fun i hi => ?_, ⟨0, by omega, ⟨t17, t18, rfl, by rw [t11]; exact hm1.1, by rw [t11, hc1]; omega⟩, trivial, t19, t20, List.Pairwise.nil, fun q hq => (by cases hq)⟩, sam.rf, fun q hq => (by cases hq)⟩) hs2
  rw [t11]
  refine (hm1.2.1 i hi).mpr ?_
  unfold mkM; rw [decide_eq_true_iff]; exact mkl_mem.mpr hi
section Step
variable {S : Nat → Prop} {s0 : CS} {k : Int32} {l : List (Nat × Nat)} {v : Int32} {fr : Nat}
/-- a copy is made and hung -/
def BX (s0 s : CS) (g : LG) (rl : Nat → Nat) (S : Nat → Prop) (k : Int32) (l : List (Nat × Nat)) (a x fr : Nat) : Prop :=
  repM s g rl S ∧ lvM s rl S ∧ WS s fr (x + 1) ∧ HB s g rl k (x + 1) l (nI x) ∧ cpd s g rl a x ∧ (x < 101 ∧ s 11 x = 0 ∧ ∀ q ∈ l, q.2 ≠ x) ∧ sam [6, 7, 8, 9, 10, 17, 18, 19, 20, 21] s0 s ∧ (∀ q ∈ l, S q.1) ∧ S a
theorem hangB {a x nx : Nat} {u2 : Int32} (hr : repM s g rl S) (hL : lvM s rl S) (hW : WS s fr nx) (hb : HB s g rl k nx l v) {vv : Int32} {post : CS → Prop}
    (hp : ∀ s', repM s' g rl S → lvM s' rl S → WS s' fr nx → HB s' g rl k nx l vv → sam [9, 10, 19] s s' → (∀ c, 9 ≤ c → c ≤ 10 → ∀ r, (∀ q ∈ l, q.2 ≠ r) → s' c r = s c r) → post s') : wp_X3_hang vv s post := by
  refine hang_spec hb (fun s' h1 h2 h3 => hp s' ?_ ?_ ?_ h1 h2 h3)
  · refine ⟨fun i hi => ?_, hr.2⟩
    obtain ⟨i0, ⟨p0, p1, p2, p3, p4, p5⟩, kc⟩ := hr.1 i hi
    have hne : ∀ q ∈ l, q.2 ≠ rl i := fun q hq e => by
      have := (hb.2.2.2.2 q hq).2.2; rw [e, hL i hi] at this; exact absurd this (by decide)
    refine ⟨i0, ⟨p0, ?_, ?_, ?_, ?_, ?_⟩, kc⟩
    · rw [h2.at 6]; exact p1
    · rw [h2.at 7]; exact p2
    · rw [h2.at 8]; exact p3
    · rw [h3 9 (by decide) (by decide) _ hne]; exact p4
    · rw [h3 10 (by decide) (by decide) _ hne]; exact p5
  · intro i hi; rw [h2.at 11]; exact hL i hi
  · exact hW.sam h2 (by decide) (by decide) (by decide)
theorem stepB (hB : BS s0 s g rl S k l v fr) (hfr : fr ≤ 60) {a : Nat} (ha : S a) {K : Int32 → CS → Prop} (hp : ∀ x s', BX s0 s' g rl S k l a x (fr + 1) → K (nI x) s') : wp_X3_copy (nI (rl a)) s (fun r u => wp_X3_hang r u (fun u2 => K r u2)) := by
  obtain ⟨hr, hL, ⟨nx, hnx, hW, hb⟩, hs, hl⟩ := hB
  refine copyM_spec hr hW hfr hnx hL ha hb (fun x s1 x1 x2 x3 x4 x5 x6 x7 x8 x9 => ?_)
  have hL1 : lvM s1 rl S := fun i hi => by rw [x8.at 11]; exact hL i hi
  have hd : ∀ q ∈ l, q.2 ≠ x := fun q hq e => by have := (hb.2.2.2.2 q hq).1; omega
  refine hangB (a := a) (x := x) (u2 := 0) x5 hL1 x4 x6 (fun s2 y1 y2 y3 y4 y5 y6 => hp x s2 ⟨y1, y2, y3, y4, ?_, ⟨x2, by rw [y5.at 11, x8.at 11]; exact x3, hd⟩, hs.tr ((x8.up (by decide)).tr (y5.up (by decide))), hl, ha⟩)
  obtain ⟨c1, c2, c3, c4, c5⟩ := x7
  exact ⟨by rw [y5.at 6]; exact c1, by rw [y5.at 7]; exact c2, by rw [y5.at 8]; exact c3, by rw [y6 9 (by decide) (by decide) x hd]; exact c4, by rw [y6 10 (by decide) (by decide) x hd]; exact c5⟩
theorem holeB {a x : Nat} (hX : BX s0 s g rl S k l a x fr) {b : Int32} (hbs : b = bI (decide (gK g a < k))) {post : CS → Prop} (hp : ∀ s', BS s0 s' g rl S k (l ++ [(a, x)]) (if gK g a < k then mI rl (gR g a) else mI rl (gL g a)) fr → sam [20, 21] s s' → post s') : wp_X3_holeAt (nI x) b s post := by
  obtain ⟨hr, hL, hW, hb, hc, ⟨x1, x2, x3⟩, hs, hl, ha⟩ := hX
  refine holeAt_spec hb hc (by omega) (by omega) x2 x3 hbs (fun s' h1 h2 => hp s' ⟨hr.sam h2 (by decide), fun i hi => by rw [h2.at 11]; exact hL i hi, ⟨x + 1, by omega, hW.sam h2 (by decide) (by decide) (by decide), h1⟩, hs.tr (h2.up (by decide)), fun q hq => ?_⟩ h2)
  rcases List.mem_append.mp hq with z | z
  · exact hl q z
  · simp at z; rw [z]; exact ha
theorem holeB' {a x : Nat} (hX : BX s0 s g rl S k l a x fr) {post : CS → Prop} (hp : ∀ s', BS s0 s' g rl S k (l ++ [(a, x)]) (if gK g a < k then mI rl (gR g a) else mI rl (gL g a)) fr → post s') : rdA (s 6) 160 (nI x) (fun z => brN (k ≤ z) (wp_X3_holeAt (nI x) 0 s post) (wp_X3_holeAt (nI x) 1 s post)) := by
  obtain ⟨-, -, -, -, hc, ⟨x1, x2, x3⟩, -⟩ := id hX
  refine rdA.mk x rfl (by omega) (by omega) ?_
  rw [hc.1]
  refine brN.mk (fun c => holeB hX ?_ (fun s' h _ => hp s' h)) (fun c => holeB hX ?_ (fun s' h _ => hp s' h))
  · rw [show decide (gK g a < k) = false by simp [i32_nlt.mpr c]]; rfl
  · rw [show decide (gK g a < k) = true by simp [i32_nle.mp c]]; rfl
/-- the joint of two trees, hung at the hole -/
theorem jointM (hw : wfG g n) (kl : Int32) : ∀ (f a b : Nat) (l : List (Nat × Nat)) (v : Int32) (s : CS) (fr : Nat), (nd g a).length + (nd g b).length < f → (a = 0 ∨ S a) → a ≤ n → (b = 0 ∨ S b) → b ≤ n → (∀ x ∈ nd g a, gK g x < k) → (∀ x ∈ nd g b, ¬ gK g x < k) → fr + (nd g a).length + (nd g b).length ≤ 60 → BS s0 s g rl S k l v fr → ∀ {post : CS → Prop},
    (∀ s' l', BS s0 s' g rl S k l' (mI rl (jrs g a b)) (fr + (jnt g a b).length) → l'.map Prod.fst = l.map Prod.fst ++ jnt g a b → post s') → lp_X3_joint_5 post f (mI rl a) (mI rl b) s := by
  intro f
  induction f with
  | zero => intro a b l v s fr h; exact absurd h (Nat.not_lt_zero _)
  | succ f ih =>
    intro a b l v s fr hf ha han hb hbn ka kb hfr hB post hp
    obtain ⟨hr, hL, ⟨nx, hnx, hW, hbb⟩, hs, hl⟩ := id hB
    have fin : (a = 0 ∨ b = 0) → brN (mI rl a < 0) (wp_X3_hang (mI rl b) s post) (wp_X3_hang (mI rl a) s post) := by
      intro h
      have hg : ∀ t, t = jrs g a b → jnt g a b = [] → wp_X3_hang (mI rl t) s post := by
        intro t e1 e2
        refine hangB (a := 0) (x := 0) (u2 := 0) hr hL hW hbb (fun s' y1 y2 y3 y4 y5 _ => hp s' l ⟨y1, y2, ⟨nx, hnx, by rw [e2]; exact y3, by rw [← e1]; exact y4⟩, hs.tr (y5.up (by decide)), hl⟩ (by rw [e2, List.append_nil]))
      refine brN.mk (fun c => ?_) (fun c => ?_)
      · have e := (hr.neg ha).mp c
        exact hg b (by rw [e, jrs_0l]) (by rw [e, jnt_0l])
      · have e : a ≠ 0 := fun q => c ((hr.neg ha).mpr q)
        have e2 := h.resolve_left e
        exact hg a (by rw [e2, jrs_0r]) (by rw [e2, jnt_0r])
    unfold lp_X3_joint_5
    refine brN.mk (fun c => fin (Or.inl ((hr.neg ha).mp c))) (fun c => ?_)
    have ea : a ≠ 0 := fun q => c ((hr.neg ha).mpr q)
    refine brN.mk (fun c2 => fin (Or.inr ((hr.neg hb).mp c2))) (fun c2 => ?_)
    have eb : b ≠ 0 := fun q => c2 ((hr.neg hb).mpr q)
    have hSa := ha.resolve_left ea
    have hSb := hb.resolve_left eb
    obtain ⟨a0, ⟨p0, p1, -, p3, -⟩, -⟩ := hr.1 a hSa
    obtain ⟨b0, ⟨q0, q1, -, q3, -⟩, -⟩ := hr.1 b hSb
    obtain ⟨w1, w2, -⟩ := hw a a0 han
    obtain ⟨v1, v2, -⟩ := hw b b0 hbn
    have hla := nd_len hw a0 han
    have hlb := nd_len hw b0 hbn
    have inA : ∀ x ∈ nd g (gR g a), x ∈ nd g a := fun x hx => by rw [nd_eq hw a0 han]; exact List.mem_append_right _ (List.mem_cons_of_mem _ hx)
    have inB : ∀ x ∈ nd g (gL g b), x ∈ nd g b := fun x hx => by rw [nd_eq hw b0 hbn]; exact List.mem_append_left _ hx
    have kaa := ka a (nd_self hw a0 han)
    have kbb := kb b (nd_self hw b0 hbn)
    rw [jnt_eq hw a0 han b0 hbn, jrs_eq hw a0 han b0 hbn] at hp
    have above : ∀ (P : Int32 → CS → Prop), P (bI (abB g a b)) s → wp_X3_above (nI (rl a)) (nI (rl b)) s P := by
      intro P hP
      unfold wp_X3_above
      refine rdA.mk (rl a) rfl p0 (by omega) ?_
      refine rdA.mk (rl b) rfl q0 (by omega) ?_
      rw [p3, q3]
      refine brN.mk (fun d => ?_) (fun d => ?_)
      · rw [show abB g a b = true by simp [abB, abv, d]] at hP; exact hP
      · refine rdA.mk (rl a) rfl p0 (by omega) ?_
        refine rdA.mk (rl b) rfl q0 (by omega) ?_
        rw [p3, q3]
        refine brN.mk (fun d2 => ?_) (fun d2 => ?_)
        · refine rdA.mk (rl a) rfl p0 (by omega) ?_
          refine rdA.mk (rl b) rfl q0 (by omega) ?_
          rw [p1, q1]
          refine brN.mk (fun d3 => ?_) (fun d3 => ?_)
          · rw [show abB g a b = false by simp [abB, abv, d, i32_nlt.mpr d3]] at hP; exact hP
          · rw [show abB g a b = true by simp [abB, abv, d2, i32_nle.mp d3]] at hP; exact hP
        · rw [show abB g a b = false by simp [abB, abv, d, d2]] at hP; exact hP
    rw [mI_s rl ea, mI_s rl eb]
    refine above _ ?_
    cases hab : abB g a b with
    | false =>
      rw [if_neg (by simp [hab]), if_neg (by simp [hab])] at hp
      refine brN.mt rfl ?_
      refine stepB hB (by omega) hSb (fun x s1 hX => ?_)
      refine holeB hX (by simp [kbb]) (fun s2 hB2 _ => brN.mt rfl (brN.mt rfl ?_))
      obtain ⟨hr2, -⟩ := id hB2
      obtain ⟨-, ⟨-, -, -, -, r4, -⟩, -⟩ := hr2.1 b hSb
      refine rdA.mk (rl b) rfl q0 (by omega) ?_
      rw [r4]
      have := ih a (gL g b) _ _ s2 _ (by omega) ha han (repM_kid hr hSb).1 (by omega) ka (fun x hx => kb x (inB x hx)) (by omega) hB2 (post := post) (fun s' l' z1 z2 => hp s' l' (by rw [List.length_cons, show fr + ((jnt g a (gL g b)).length + 1) = fr + 1 + (jnt g a (gL g b)).length by omega]; exact z1) (by rw [z2]; simp))
      rw [mI_s rl ea] at this; exact this
    | true =>
      rw [if_pos hab, if_pos hab] at hp
      refine brN.mf (by decide) ?_
      refine stepB hB (by omega) hSa (fun x s1 hX => ?_)
      refine holeB hX (by simp [kaa]) (fun s2 hB2 _ => brN.mf (by decide) ?_)
      obtain ⟨hr2, -⟩ := id hB2
      obtain ⟨-, ⟨-, -, -, -, -, r5⟩, -⟩ := hr2.1 a hSa
      refine rdA.mk (rl a) rfl p0 (by omega) ?_
      rw [r5]
      refine brN.mf (by decide) ?_
      have := ih (gR g a) b _ _ s2 _ (by omega) (repM_kid hr hSa).2 (by omega) hb hbn (fun x hx => ka x (inA x hx)) kb (by omega) hB2 (post := post) (fun s' l' z1 z2 => hp s' l' (by rw [List.length_cons, show fr + ((jnt g (gR g a) b).length + 1) = fr + 1 + (jnt g (gR g a) b).length by omega]; exact z1) (by rw [z2]; simp))
      rw [mI_s rl eb] at this; exact this
end Step
/-- an update that was built is settled -/
theorem settleB (H : MR C V s g n rl lv rt sd us sw) {s1 : CS} {k : Int32} {l : List (Nat × Nat)} {t0 : Nat} {h : Nat} (hf : frH lv V = some h) (hh : h < V) (hB : BS s s1 g rl (liv g lv rt V) k l (mI rl t0) l.length) (ht0 : t0 = 0 ∨ liv g lv rt V t0) (hlen : l.length ≤ 100)
    (hwf : wfG (cpo k (l.map Prod.fst).reverse g n t0).1 (n + l.length) ∧ agr g (cpo k (l.map Prod.fst).reverse g n t0).1 n ∧ (cpo k (l.map Prod.fst).reverse g n t0).2 ≤ n + l.length) {post : Int32 → CS → Prop}
    (hp : ∀ rl2 s2, (lvA V (aup C V g n lv rt sd us sw l.length (cpo k (l.map Prod.fst).reverse g n t0).1 (n + l.length) (cpo k (l.map Prod.fst).reverse g n t0).2 sd).2 ≤ C → MRa C V s2 rl2 (aup C V g n lv rt sd us sw l.length (cpo k (l.map Prod.fst).reverse g n t0).1 (n + l.length) (cpo k (l.map Prod.fst).reverse g n t0).2 sd).2) → post (aup C V g n lv rt sd us sw l.length (cpo k (l.map Prod.fst).reverse g n t0).1 (n + l.length) (cpo k (l.map Prod.fst).reverse g n t0).2 sd).1 s2) : wp_X3_settle (nI h) s1 post := by
  obtain ⟨hr, hL, ⟨nx, hnx, hW, hb1, hb2, hb3, hb4, hb5⟩, hs, hl⟩ := hB
  obtain ⟨⟨hC, hV⟩, hw, hrt, hr0, hlv, hro, e1, e2, e3, e4, e5, hus, hlc⟩ := id H
  have H1 : MR C V s1 g n rl lv rt sd us sw := by
    refine ⟨⟨hC, hV⟩, hw, hrt, hr, ?_, ?_, ?_, ?_, ?_, ?_, ?_, hus, hlc⟩
    · rw [hs.at 15]; exact hlv
    · rw [hs.at 16]; exact hro
    · rw [hs.at 1]; exact e1
    · rw [hs.at 2]; exact e2
    · rw [hs.at 3]; exact e3
    · rw [hs.at 4]; exact e4
    · rw [hs.at 5]; exact e5
  obtain ⟨rl', r1, r2, r3, r4⟩ := chain_rep hr (liv_n hrt) ht0 l hl hb1 hb4 (fun q hq => ⟨(hb5 q hq).2.1, fun i hi e => by
    have := hL i hi; rw [e, (hb5 q hq).2.2] at this; exact absurd this (by decide)⟩)
  refine settle_spec H1 hf hh hlen hW.1 r1 (by rw [r3]; exact hb2) hwf.1 hwf.2.1 (by omega) hwf.2.2 ?_ r2 hp
  rw [cpo_top]
  by_cases e : (l.map Prod.fst).reverse = []
  · rw [if_pos e]; exact ht0.imp id Or.inl
  · rw [if_neg e, List.length_reverse, List.length_map]
    have : l ≠ [] := fun q => e (by rw [q]; rfl)
    have : 0 < l.length := List.length_pos_iff.mpr this
    exact Or.inr (Or.inr (by omega))
end OpsM
