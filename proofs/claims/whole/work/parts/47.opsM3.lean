/-! the reference's join, drop and answers -/
section OpsM3
variable {C V n : Nat} {s : CS} {g : LG} {rl : Nat → Nat} {S : Nat → Prop} {lv : Nat → Bool} {rt : Nat → Nat} {sd sw : Int32} {us : Nat}
theorem leastM_spec (hr : repM s g rl S) (hw : wfG g n) {i : Nat} (hi : S i) (hin : i ≤ n) {post : Int32 → CS → Prop} (hp : post (gK g (nth g i 0)) s) : wp_X3_least (mI rl i) s post := by
  have lp : ∀ (f i : Nat), (nd g i).length < f → S i → i ≤ n → post (gK g (nth g i 0)) s → lp_X3_least_2 post f (mI rl i) s := by
    intro f
    induction f with
    | zero => intro i h; exact absurd h (Nat.not_lt_zero _)
    | succ f ih =>
      intro i hf hS hin hp
      obtain ⟨i0, ⟨p0, p1, -, -, p4, p5⟩, -⟩ := hr.1 i hS
      obtain ⟨w1, w2, -⟩ := hw i i0 hin
      have hlen := nd_len hw i0 hin
      rw [nth_eq hw i0 hin] at hp
      unfold lp_X3_least_2
      rw [mI_s rl (by omega)]
      refine rdA.mk (rl i) rfl p0 (by omega) ?_
      rw [p4]
      refine brN.mk (fun c => ?_) (fun c => ?_)
      · have e := (hr.neg (repM_kid hr hS).1).mp c
        refine rdA.mk (rl i) rfl p0 (by omega) ?_
        rw [p1]
        rw [e, nd_0] at hp
        exact hp
      · have e : gL g i ≠ 0 := fun q => c ((hr.neg (repM_kid hr hS).1).mpr q)
        have hpos := nd_ne hw e (by omega : gL g i ≤ n)
        rw [if_neg (by omega), if_pos (by omega)] at hp
        refine rdA.mk (rl i) rfl p0 (by omega) ?_
        rw [p4]
        exact ih _ (by omega) ((repM_kid hr hS).1.resolve_left e) (by omega) hp
  unfold wp_X3_least
  exact ⟨_, lp _ i (Nat.lt_succ_self _) hi hin hp⟩
theorem greatestM_spec (hr : repM s g rl S) (hw : wfG g n) {i : Nat} (hi : S i) (hin : i ≤ n) {post : Int32 → CS → Prop} (hp : post (gK g (nth g i ((nd g i).length - 1))) s) : wp_X3_greatest (mI rl i) s post := by
  have lp : ∀ (f i : Nat), (nd g i).length < f → S i → i ≤ n → post (gK g (nth g i ((nd g i).length - 1))) s → lp_X3_greatest_2 post f (mI rl i) s := by
    intro f
    induction f with
    | zero => intro i h; exact absurd h (Nat.not_lt_zero _)
    | succ f ih =>
      intro i hf hS hin hp
      obtain ⟨i0, ⟨p0, p1, -, -, p4, p5⟩, -⟩ := hr.1 i hS
      obtain ⟨w1, w2, -⟩ := hw i i0 hin
      have hlen := nd_len hw i0 hin
      rw [nth_eq hw i0 hin] at hp
      unfold lp_X3_greatest_2
      rw [mI_s rl (by omega)]
      refine rdA.mk (rl i) rfl p0 (by omega) ?_
      rw [p5]
      refine brN.mk (fun c => ?_) (fun c => ?_)
      · have e := (hr.neg (repM_kid hr hS).2).mp c
        refine rdA.mk (rl i) rfl p0 (by omega) ?_
        rw [p1]
        rw [e, nd_0] at hlen
        rw [if_pos (by rw [hlen]; simp; omega)] at hp
        exact hp
      · have e : gR g i ≠ 0 := fun q => c ((hr.neg (repM_kid hr hS).2).mpr q)
        have hpos := nd_ne hw e (by omega : gR g i ≤ n)
        rw [if_neg (by omega), if_neg (by omega), show ((nd g i).length : Int) - 1 - ((nd g (gL g i)).length + 1) = ((nd g (gR g i)).length : Int) - 1 by omega] at hp
        refine rdA.mk (rl i) rfl p0 (by omega) ?_
        rw [p5]
        exact ih _ (by omega) ((repM_kid hr hS).2.resolve_left e) (by omega) hp
  unfold wp_X3_greatest
  exact ⟨_, lp _ i (Nat.lt_succ_self _) hi hin hp⟩
theorem joinM_spec (H : MR C V s g n rl lv rt sd us sw) {a b : Nat} (a1 : a < V) (a2 : lv a = true) (b1 : b < V) (b2 : lv b = true) {post : Int32 → CS → Prop} (hmx : mxd g (rt a) (rt b) → ∀ s2, MR C V s2 g n rl lv rt sd us sw → post (-4) s2)
    (hp : ¬ mxd g (rt a) (rt b) → ∀ rl2 s2, (lvA V (joinO C V g n lv rt sd us sw a b).2 ≤ C → MRa C V s2 rl2 (joinO C V g n lv rt sd us sw a b).2) → post (joinO C V g n lv rt sd us sw a b).1 s2) : wp_X3_join (nI a) (nI b) s post := by
  unfold wp_X3_join
  refine stF.mk ?_
  have H1 := MR_sam H (sam.cs (J := [0]) (i := 0) (f := fun _ => 0) (by decide)) (by decide)
  generalize cset s 0 (fun _ => 0) = s1 at H1 ⊢
  obtain ⟨⟨hC, hV⟩, hw, hrt, hr, hlv, hro, e1, e2, e3, e4, e5, hus, hlc⟩ := id H1
  have ha := liv_rt hw hrt a1 a2
  have han := hrt a a1 a2
  have hb := liv_rt hw hrt b1 b2
  have hbn := hrt b b1 b2
  have tl : ¬ mxd g (rt a) (rt b) → wp_X3_freeHandle s1 (fun r11 u10 => brN (0 ≤ r11) (wp_X3_begin u10 (fun u13 => rdA (u13 16) 8 (nI a) (fun z14 => rdA (u13 16) 8 (nI b) (fun z15 => wp_X3_joint z14 z15 u13 (fun u16 => wp_X3_settle r11 u16 (fun r18 u17 => post r18 u17)))))) (post (-2) u10)) := by
    intro hnm
    have hp' := hp hnm
    unfold joinO at hp'
    refine freeHandle_spec H1 (fun e => ?_) (fun h' e hh => ?_)
    · have e0 : ∀ (m : Nat) (g' : LG) (n' t : Nat) (sd' : Int32), aup C V g n lv rt sd us sw m g' n' t sd' = (-2, (g, n, lv, rt, sd, us, sw)) := by intro m g' n' t sd'; unfold aup; rw [e]
      rw [e0] at hp'
      exact brN.mf (by decide) (hp' rl s1 (fun _ => H1))
    · refine brN.mt (nI_pos' (by omega)) (begin_spec H1 (fun s2 H2 hB2 hs2 => ?_))
      obtain ⟨-, -, -, hr2, -, hro2, -⟩ := id H2
      refine rdA.mk a rfl (by omega) (by omega) ?_
      refine rdA.mk b rfl (by omega) (by omega) ?_
      rw [hro2 a a1 a2, hro2 b b1 b2]
      have hBk := hB2 (gK g (nth g (rt b) 0))
      have hnm' : rt a ≠ 0 → rt b ≠ 0 → ∀ x ∈ nd g (rt a), gK g x < gK g (nth g (rt b) 0) := by
        intro e1 e2 x hx
        have h1 := srt_last hw e1 han x hx
        have h2 : gK g (nth g (rt a) ((nd g (rt a)).length - 1)) < gK g (nth g (rt b) 0) := Decidable.byContradiction (fun q => hnm ⟨e1, e2, q⟩)
        rw [Int32.lt_iff_toInt_lt] at *; omega
      have hsA := H.size a1 a2
      have hsB := H.size b1 b2
      unfold wp_X3_joint
      by_cases ez : rt a = 0 ∨ rt b = 0
      · have ej : jnt g (rt a) (rt b) = [] := by
          rcases ez with q | q
          · rw [q, jnt_0l]
          · rw [q, jnt_0r]
        have et : (jrs g (rt a) (rt b) = rt a ∧ rt b = 0) ∨ (jrs g (rt a) (rt b) = rt b ∧ rt a = 0) := by
          rcases ez with q | q
          · right; exact ⟨by rw [q, jrs_0l], q⟩
          · left; exact ⟨by rw [q, jrs_0r], q⟩
        have htS : jrs g (rt a) (rt b) = 0 ∨ liv g lv rt V (jrs g (rt a) (rt b)) := by
          rcases et with ⟨q, -⟩ | ⟨q, -⟩
          · rw [q]; exact ha
          · rw [q]; exact hb
        have htn : jrs g (rt a) (rt b) ≤ n := by
          rcases et with ⟨q, -⟩ | ⟨q, -⟩ <;> omega
        obtain ⟨c1, c2, ⟨nx, c3, c4, c5⟩, c6, c7⟩ := id hBk
        have hg : ∀ t, t = jrs g (rt a) (rt b) → wp_X3_hang (mI rl t) s2 (fun u16 => wp_X3_settle (nI h') u16 (fun r18 u17 => post r18 u17)) := by
          intro t e1
          refine hangB (a := 0) (x := 0) (u2 := 0) c1 c2 c4 c5 (fun s' y1 y2 y3 y4 y5 _ => ?_)
          refine settleB H2 e hh (l := []) ⟨y1, y2, ⟨nx, c3, y3, by rw [← e1]; exact y4⟩, y5.up (by decide), c7⟩ htS (by simp) ⟨hw, agr.rf g n, htn⟩ ?_
          rw [ej] at hp'
          exact hp'
        refine ⟨1, ?_⟩
        unfold lp_X3_joint_5
        have fin : brN (mI rl (rt a) < 0) (wp_X3_hang (mI rl (rt b)) s2 (fun u16 => wp_X3_settle (nI h') u16 (fun r18 u17 => post r18 u17))) (wp_X3_hang (mI rl (rt a)) s2 (fun u16 => wp_X3_settle (nI h') u16 (fun r18 u17 => post r18 u17))) := by
          refine brN.mk (fun c => hg _ ?_) (fun c => hg _ ?_)
          · have q := (hr2.neg ha).mp c; rw [q, jrs_0l]
          · have q : rt a ≠ 0 := fun q => c ((hr2.neg ha).mpr q)
            rw [ez.resolve_left q, jrs_0r]
        refine brN.mk (fun _ => fin) (fun c => brN.mt ?_ fin)
        exact (hr2.neg hb).mpr (ez.resolve_left (fun q => c ((hr2.neg ha).mpr q)))
      · have ea : rt a ≠ 0 := fun q => ez (Or.inl q)
        have eb : rt b ≠ 0 := fun q => ez (Or.inr q)
        have kl := hnm' ea eb
        have kr := srt_first hw eb hbn
        obtain ⟨-, i2, i3, i4, -, -, i7⟩ := jnt_all hw (gK g (nth g (rt b) 0)) _ _ _ (Nat.lt_succ_self _) han hbn kl kr
        have hdis : ∀ x ∈ nd g (rt a), ∀ y ∈ nd g (rt b), x ≠ y := by
          intro x hx y hy e
          have := kl x hx
          rw [e] at this
          exact kr y hy this
        have hlen : (nd g (rt a)).length + (nd g (rt b)).length ≤ C := by
          have := len_sub (l := nd g (rt a) ++ nd g (rt b)) (l' := mkl g lv rt V) (List.nodup_append.mpr ⟨nd_nodup hw han, nd_nodup hw hbn, hdis⟩) (fun x hx => by
            rcases List.mem_append.mp hx with q | q
            · exact mkl_mem.mpr ⟨a, a1, a2, q⟩
            · exact mkl_mem.mpr ⟨b, b1, b2, q⟩)
          rw [List.length_append] at this
          unfold lvc at hlc; omega
        refine ⟨_, jointM hw (gK g (nth g (rt b) 0)) _ _ _ [] (-1) s2 0 (Nat.lt_succ_self _) ha han hb hbn kl kr (by omega) hBk (fun s5 l' z1 z2 => ?_)⟩
        rw [List.map_nil, List.nil_append] at z2
        have hll : l'.length = (jnt g (rt a) (rt b)).length := by rw [← z2, List.length_map]
        have htS : jrs g (rt a) (rt b) = 0 ∨ liv g lv rt V (jrs g (rt a) (rt b)) := by
          by_cases e3 : jrs g (rt a) (rt b) = 0
          · exact Or.inl e3
          · rcases i4 _ (nd_self hw (by omega) i3) with q | q
            · exact Or.inr ⟨a, a1, a2, q⟩
            · exact Or.inr ⟨b, b1, b2, q⟩
        refine settleB H2 e hh (by rw [hll]; rw [Nat.zero_add] at z1; exact z1) htS (by omega) ?_ ?_
        · rw [z2, hll]; exact jnt_wf hw _ han hbn kl kr
        · rw [z2, hll]; exact hp'
  refine has_spec H1 (fun _ _ _ _ => brN.mf (by decide) ?_) (fun q => absurd ⟨a, a1, rfl, a2⟩ q)
  refine has_spec H1 (fun _ _ _ _ => brN.mf (by decide) ?_) (fun q => absurd ⟨b, b1, rfl, b2⟩ q)
  refine rdA.mk a rfl (by omega) (by omega) ?_
  rw [hro a a1 a2]
  refine brN.mk (fun c => ?_) (fun c => ?_)
  · exact tl (fun q => q.1 ((hr.neg ha).mp c))
  · have ea : rt a ≠ 0 := fun q => c ((hr.neg ha).mpr q)
    refine rdA.mk b rfl (by omega) (by omega) ?_
    rw [hro b b1 b2]
    refine brN.mk (fun c2 => ?_) (fun c2 => ?_)
    · exact tl (fun q => q.2.1 ((hr.neg hb).mp c2))
    · have eb : rt b ≠ 0 := fun q => c2 ((hr.neg hb).mpr q)
      refine rdA.mk a rfl (by omega) (by omega) ?_
      rw [hro a a1 a2]
      refine greatestM_spec hr hw (ha.resolve_left ea) han ?_
      refine rdA.mk b rfl (by omega) (by omega) ?_
      rw [hro b b1 b2]
      refine leastM_spec hr hw (hb.resolve_left eb) hbn ?_
      refine brN.mk (fun c3 => tl (fun q => q.2.2 c3)) (fun c3 => hmx ⟨ea, eb, c3⟩ s1 H1)
theorem dropM_spec (H : MR C V s g n rl lv rt sd us sw) {x : Int32} {post : Int32 → CS → Prop} (hy : ∀ h, h < V → x = nI h → lv h = true → ∀ s2, (lvc g (upn lv h false) rt V ≤ C → MR C V s2 g n rl (upn lv h false) rt sd us sw) → post 1 s2) (hn : (¬ ∃ h, h < V ∧ x = nI h ∧ lv h = true) → ∀ s2, MR C V s2 g n rl lv rt sd us sw → post 0 s2) : wp_X3_drop x s post := by
  unfold wp_X3_drop
  refine stF.mk ?_
  have H1 := MR_sam H (sam.cs (J := [0]) (i := 0) (f := fun _ => 0) (by decide)) (by decide)
  generalize cset s 0 (fun _ => 0) = s1 at H1 ⊢
  obtain ⟨⟨hC, hV⟩, hw, hrt, hr, hlv, hro, e1, e2, e3, e4, e5, hus, hlc⟩ := id H1
  refine has_spec H1 (fun h h1 e h2 => brN.mf (by decide) ?_) (fun q => brN.mt rfl (hn q s1 H1))
  refine wrZ.mk h e (by omega) (by omega) isB_0 (wrA.mk h e (by omega) (by omega) (hy h h1 e h2 _ (fun hl2 => ?_)))
  have hl : ∀ j, upn lv h false j = true → lv j = true ∧ j ≠ h := by
    intro j hj
    by_cases e : j = h
    · rw [e, upn_eq] at hj; cases hj
    · rw [upn_ne _ _ e] at hj; exact ⟨hj, e⟩
  have hrt' : ∀ j, j < V → upn lv h false j = true → rt j ≤ n := fun j hj q => hrt j hj (hl j q).1
  have hx : ∀ j, j ≠ 15 → j ≠ 16 → cset (cset s1 15 (upd (s1 15) h 0)) 16 (upd (cset s1 15 (upd (s1 15) h 0) 16) h (-1)) j = s1 j := by
    intro j h1 h2; rw [cset_ne _ _ h2, cset_ne _ _ h1]
  refine ⟨⟨hC, hV⟩, hw, hrt', ?_, fun j hj => ?_, fun j hj q => ?_, by rw [hx 1 (by decide) (by decide)]; exact e1, by rw [hx 2 (by decide) (by decide)]; exact e2, by rw [hx 3 (by decide) (by decide)]; exact e3, by rw [hx 4 (by decide) (by decide)]; exact e4, by rw [hx 5 (by decide) (by decide)]; exact e5, hus, hl2⟩
  · refine (repM_sub hr ?_ (liv_clo hw hrt')).sam (J := [15, 16]) (fun j hj => by simp at hj; exact hx j hj.1 hj.2) (by decide)
    rintro i ⟨j, j1, j2, j3⟩; exact ⟨j, j1, (hl j j2).1, j3⟩
  · rw [cset_ne _ _ (by decide), cset_eq, upd_ap]
    by_cases e : j = h
    · rw [if_pos e, e, upn_eq]; rfl
    · rw [if_neg e, upn_ne _ _ e]; exact hlv j hj
  · rw [cset_eq, upd_ap, if_neg (hl j q).2, cset_ne _ _ (by decide)]; exact hro j hj (hl j q).1
theorem isLiveM_spec (H : MR C V s g n rl lv rt sd us sw) {x : Int32} {post : Int32 → CS → Prop} (hy : ∀ h, h < V → x = nI h → lv h = true → ∀ s2, MR C V s2 g n rl lv rt sd us sw → post 1 s2) (hn : (¬ ∃ h, h < V ∧ x = nI h ∧ lv h = true) → ∀ s2, MR C V s2 g n rl lv rt sd us sw → post 0 s2) : wp_X3_isLive x s post := by
  unfold wp_X3_isLive
  refine stF.mk ?_
  have H1 := MR_sam H (sam.cs (J := [0]) (i := 0) (f := fun _ => 0) (by decide)) (by decide)
  generalize cset s 0 (fun _ => 0) = s1 at H1 ⊢
  exact has_spec H1 (fun h h1 e h2 => hy h h1 e h2 s1 H1) (fun q => hn q s1 H1)
theorem containsM_spec (H : MR C V s g n rl lv rt sd us sw) {x k : Int32} {post : Int32 → CS → Prop} (hy : ∀ h, h < V → x = nI h → lv h = true → ∀ s2, MR C V s2 g n rl lv rt sd us sw → post (bI (decide (fnd g k (rt h) ≠ 0))) s2) (hn : (¬ ∃ h, h < V ∧ x = nI h ∧ lv h = true) → ∀ s2, MR C V s2 g n rl lv rt sd us sw → post 0 s2) : wp_X3_contains x k s post := by
  unfold wp_X3_contains
  refine stF.mk ?_
  have H1 := MR_sam H (sam.cs (J := [0]) (i := 0) (f := fun _ => 0) (by decide)) (by decide)
  generalize cset s 0 (fun _ => 0) = s1 at H1 ⊢
  obtain ⟨⟨hC, hV⟩, hw, hrt, hr, hlv, hro, -⟩ := id H1
  refine has_spec H1 (fun h h1 e h2 => brN.mf (by decide) ?_) (fun q => brN.mt rfl (hn q s1 H1))
  refine rdA.mk h e (by omega) (by omega) ?_
  rw [hro h h1 h2]
  have hin := hrt h h1 h2
  have hfl : fnd g k (rt h) = 0 ∨ liv g lv rt V (fnd g k (rt h)) := by
    by_cases e : fnd g k (rt h) = 0
    · exact Or.inl e
    · exact Or.inr ⟨h, h1, h2, (fnd_mem hw k _ hin e).1⟩
  refine findM_spec hr hw (liv_rt hw hrt h1 h2) hin ?_
  have hp := hy h h1 e h2 s1 H1
  refine brN.mk (fun c => ?_) (fun c => ?_)
  · rw [show decide (fnd g k (rt h) ≠ 0) = false by simp [(hr.neg hfl).mp c]] at hp; exact hp
  · have c' : fnd g k (rt h) ≠ 0 := fun e => c ((hr.neg hfl).mpr e)
    rw [show decide (fnd g k (rt h) ≠ 0) = true by simp [c']] at hp; exact hp
theorem nodesM_spec (H : MR C V s g n rl lv rt sd us sw) {post : Int32 → CS → Prop} (hy : ∀ s2, MR C V s2 g n rl lv rt sd us sw → post (nI (lvc g lv rt V)) s2) : wp_X3_nodes s post := by
  unfold wp_X3_nodes
  refine stF.mk ?_
  have H1 := MR_sam H (sam.cs (J := [0]) (i := 0) (f := fun _ => 0) (by decide)) (by decide)
  generalize cset s 0 (fun _ => 0) = s1 at H1 ⊢
  exact markAll_spec H1 (fun s2 hs2 _ _ => hy s2 (MR_sam H1 hs2 (by decide)))
theorem usedM_spec (H : MR C V s g n rl lv rt sd us sw) {post : Int32 → CS → Prop} (hy : ∀ s2, MR C V s2 g n rl lv rt sd us sw → post (nI us) s2) : wp_X3_used s post := by
  unfold wp_X3_used
  refine stF.mk ?_
  have H1 := MR_sam H (sam.cs (J := [0]) (i := 0) (f := fun _ => 0) (by decide)) (by decide)
  generalize cset s 0 (fun _ => 0) = s1 at H1 ⊢
  obtain ⟨-, -, -, -, -, -, -, -, -, e4, -⟩ := id H1
  refine nmI.mk ?_
  rw [e4]; exact hy s1 H1
theorem sweepsM_spec (H : MR C V s g n rl lv rt sd us sw) {post : Int32 → CS → Prop} (hy : ∀ s2, MR C V s2 g n rl lv rt sd us sw → post sw s2) : wp_X3_sweeps s post := by
  unfold wp_X3_sweeps
  refine stF.mk ?_
  have H1 := MR_sam H (sam.cs (J := [0]) (i := 0) (f := fun _ => 0) (by decide)) (by decide)
  generalize cset s 0 (fun _ => 0) = s1 at H1 ⊢
  obtain ⟨-, -, -, -, -, -, -, -, -, -, e5, -⟩ := id H1
  refine nmI.mk ?_
  rw [e5]; exact hy s1 H1
/-- a tree marked in the row 'other' that was cleared -/
theorem markO_spec (H : MR C V s g n rl lv rt sd us sw) (hz : ∀ x, x < 160 → s 12 x = 0) {h : Nat} (h1 : h < V) (h2 : lv h = true) {post : Int32 → CS → Prop} (hp : ∀ s2, MR C V s2 g n rl lv rt sd us sw → sam [12, 13, 14] s s2 → RMK 12 s2 rl (liv g lv rt V) (mu m0 (nd g (rt h))) → post (nI (nd g (rt h)).length) s2) : wp_X3_mark 12 (mI rl (rt h)) s post := by
  have hsz := H.size h1 h2
  obtain ⟨⟨hC, hV⟩, hw, hrt, hr, hlv, hro, -⟩ := id H
  refine mark_spec (Or.inr rfl) hr hw (rmk_0 hr hz) (clo_0 g) (liv_rt hw hrt h1 h2) (hrt h h1 h2) (by omega) (fun s2 hs2 hm2 _ => ?_)
  rw [nwc_0]
  exact hp s2 (MR_sam H hs2 (by decide)) hs2 hm2
theorem sizeM_spec (H : MR C V s g n rl lv rt sd us sw) {x : Int32} {post : Int32 → CS → Prop} (hy : ∀ h, h < V → x = nI h → lv h = true → ∀ s2, MR C V s2 g n rl lv rt sd us sw → post (nI (nd g (rt h)).length) s2) (hn : (¬ ∃ h, h < V ∧ x = nI h ∧ lv h = true) → ∀ s2, MR C V s2 g n rl lv rt sd us sw → post (-1) s2) : wp_X3_size x s post := by
  unfold wp_X3_size
  refine stF.mk ?_
  have H1 := MR_sam H (sam.cs (J := [0]) (i := 0) (f := fun _ => 0) (by decide)) (by decide)
  generalize cset s 0 (fun _ => 0) = s1 at H1 ⊢
  refine clear_spec (fun s2 hs2 hz2 => ?_)
  have H2 := MR_sam H1 hs2 (by decide)
  obtain ⟨⟨hC, hV⟩, hw, hrt, hr, hlv, hro, -⟩ := id H2
  refine has_spec H2 (fun h h1 e h2 => brN.mf (by decide) ?_) (fun q => brN.mt rfl (hn q s2 H2))
  refine rdA.mk h e (by omega) (by omega) ?_
  rw [hro h h1 h2]
  exact markO_spec H2 hz2 h1 h2 (fun s3 H3 _ _ => hy h h1 e h2 s3 H3)
theorem getM_spec (H : MR C V s g n rl lv rt sd us sw) {x k : Int32} {post : Int32 → CS → Prop} (hy : ∀ h, h < V → x = nI h → lv h = true → fnd g k (rt h) ≠ 0 → ∀ s2, MR C V s2 g n rl lv rt sd us sw → s2 0 0 = 0 → post (gV g (fnd g k (rt h))) s2) (hn : (¬ ∃ h, h < V ∧ x = nI h ∧ lv h = true ∧ fnd g k (rt h) ≠ 0) → ∀ s2, MR C V s2 g n rl lv rt sd us sw → s2 0 0 = 1 → post 0 s2) : wp_X3_get x k s post := by
  unfold wp_X3_get
  obtain ⟨⟨hC, hV⟩, hw, hrt, hr, hlv, hro, -⟩ := id H
  have H1 : ∀ z : Int32, MR C V (cset s 0 (fun _ => z)) g n rl lv rt sd us sw := fun z => MR_sam H (sam.cs (J := [0]) (by decide)) (by decide)
  refine has_spec H (fun h h1 e h2 => brN.mf (by decide) ?_) (fun q => brN.mt rfl (stF.mk (hn (fun ⟨h, a, b, c, _⟩ => q ⟨h, a, b, c⟩) _ (H1 1) (by rw [cset_eq]))))
  refine rdA.mk h e (by omega) (by omega) ?_
  rw [hro h h1 h2]
  have hin := hrt h h1 h2
  have hfl : fnd g k (rt h) = 0 ∨ liv g lv rt V (fnd g k (rt h)) := by
    by_cases e : fnd g k (rt h) = 0
    · exact Or.inl e
    · exact Or.inr ⟨h, h1, h2, (fnd_mem hw k _ hin e).1⟩
  refine findM_spec hr hw (liv_rt hw hrt h1 h2) hin ?_
  refine brN.mk (fun c => stF.mk (brN.mt c ?_)) (fun c => stF.mk (brN.mf c ?_))
  · have ex := (mI_ge hr hfl).mp c
    have hr1 := hr.sam (sam.cs (J := [0]) (s := s) (i := 0) (f := fun _ => 0) (by decide)) (by decide)
    obtain ⟨-, ⟨x0, -, x2, -⟩, -⟩ := hr1.1 _ (hfl.resolve_left ex)
    rw [mI_s rl ex]
    refine rdA.mk (rl (fnd g k (rt h))) rfl x0 (by omega) ?_
    rw [x2]
    exact hy h h1 e h2 ex _ (H1 0) (by rw [cset_eq])
  · have ex : fnd g k (rt h) = 0 := Decidable.byContradiction (fun q => c ((mI_ge hr hfl).mpr q))
    refine hn (fun ⟨j, a, b, c, d⟩ => d ?_) _ (H1 1) (by rw [cset_eq])
    have : j = h := (nI_eq (by omega) (by omega)).mp (by rw [← b, ← e])
    rw [this]; exact ex
theorem depthM_spec (H : MR C V s g n rl lv rt sd us sw) {x k : Int32} {post : Int32 → CS → Prop} (hy : ∀ h, h < V → x = nI h → lv h = true → fnd g k (rt h) ≠ 0 → ∀ s2, MR C V s2 g n rl lv rt sd us sw → s2 0 0 = 0 → post (nI (way g k (rt h)).length) s2) (hn : (¬ ∃ h, h < V ∧ x = nI h ∧ lv h = true ∧ fnd g k (rt h) ≠ 0) → ∀ s2, MR C V s2 g n rl lv rt sd us sw → s2 0 0 = 1 → post 0 s2) : wp_X3_depth x k s post := by
  have hsz := fun {h} => H.size (h := h)
  unfold wp_X3_depth
  obtain ⟨⟨hC, hV⟩, hw, hrt, hr, hlv, hro, -⟩ := id H
  have H1 : ∀ z : Int32, MR C V (cset s 0 (fun _ => z)) g n rl lv rt sd us sw := fun z => MR_sam H (sam.cs (J := [0]) (by decide)) (by decide)
  refine has_spec H (fun h h1 e h2 => brN.mf (by decide) ?_) (fun q => brN.mt rfl (stF.mk (hn (fun ⟨h, a, b, c, _⟩ => q ⟨h, a, b, c⟩) _ (H1 1) (by rw [cset_eq]))))
  refine rdA.mk h e (by omega) (by omega) ?_
  rw [hro h h1 h2]
  have hin := hrt h h1 h2
  have hfl : fnd g k (rt h) = 0 ∨ liv g lv rt V (fnd g k (rt h)) := by
    by_cases e : fnd g k (rt h) = 0
    · exact Or.inl e
    · exact Or.inr ⟨h, h1, h2, (fnd_mem hw k _ hin e).1⟩
  refine findM_spec hr hw (liv_rt hw hrt h1 h2) hin ?_
  refine brN.mk (fun c => stF.mk (brN.mt c ?_)) (fun c => stF.mk (brN.mf c ?_))
  · have ex := (mI_ge hr hfl).mp c
    have hH := H1 0
    have h00 : cset s 0 (fun _ => 0) 0 0 = 0 := by rw [cset_eq]
    generalize cset s 0 (fun _ => 0) = s1 at hH h00 ⊢
    obtain ⟨-, -, -, hr1, -, hro1, -⟩ := id hH
    refine rdA.mk h e (by omega) (by omega) ?_
    rw [hro1 h h1 h2]
    refine goM_spec (e := true) hr1 hw (liv_rt hw hrt h1 h2) hin (by have := hsz h1 h2; omega) (fun s2 hs2 hy2 => nmI.mk (nmI.mk ?_))
    rw [goL_t hw k _ hin ex] at hy2
    rw [hy2.1, List.length_append, List.length_singleton, nI_pred]
    exact hy h h1 e h2 ex s2 (MR_sam hH hs2 (by decide)) (by rw [hs2.at 0]; exact h00)
  · have ex : fnd g k (rt h) = 0 := Decidable.byContradiction (fun q => c ((mI_ge hr hfl).mpr q))
    refine hn (fun ⟨j, a, b, c, d⟩ => d ?_) _ (H1 1) (by rw [cset_eq])
    have : j = h := (nI_eq (by omega) (by omega)).mp (by rw [← b, ← e])
    rw [this]; exact ex
theorem floorM_spec (H : MR C V s g n rl lv rt sd us sw) {x k : Int32} {post : Int32 → CS → Prop} (hy : ∀ h, h < V → x = nI h → lv h = true → flr g k 0 (rt h) ≠ 0 → ∀ s2, MR C V s2 g n rl lv rt sd us sw → s2 0 0 = 0 → post (gK g (flr g k 0 (rt h))) s2) (hn : (¬ ∃ h, h < V ∧ x = nI h ∧ lv h = true ∧ flr g k 0 (rt h) ≠ 0) → ∀ s2, MR C V s2 g n rl lv rt sd us sw → s2 0 0 = 1 → ∀ r, post r s2) : wp_X3_floor x k s post := by
  unfold wp_X3_floor
  refine stF.mk ?_
  have H1 := MR_sam H (sam.cs (J := [0]) (i := 0) (f := fun _ => 1) (by decide)) (by decide)
  have h01 : cset s 0 (fun _ => 1) 0 0 = 1 := by rw [cset_eq]
  generalize cset s 0 (fun _ => 1) = s1 at H1 h01 ⊢
  obtain ⟨⟨hC, hV⟩, hw, hrt, hr, hlv, hro, -⟩ := id H1
  have lp : ∀ (f i b : Nat) (bk : Int32) (s2 : CS), (nd g i).length < f → (i = 0 ∨ liv g lv rt V i) → i ≤ n → sam [0] s1 s2 → (b ≠ 0 → bk = gK g b ∧ s2 0 0 = 0) → (b = 0 → s2 0 0 = 1) → (flr g k b i ≠ 0 → ∀ s3, MR C V s3 g n rl lv rt sd us sw → s3 0 0 = 0 → post (gK g (flr g k b i)) s3) → (flr g k b i = 0 → ∀ s3, MR C V s3 g n rl lv rt sd us sw → s3 0 0 = 1 → ∀ r, post r s3) → lp_X3_floor_27 post f k bk (mI rl i) s2 := by
    intro f
    induction f with
    | zero => intro i b bk s2 h; exact absurd h (Nat.not_lt_zero _)
    | succ f ih =>
      intro i b bk s2 hf hi hin hs2 hb1 hb2 hp1 hp2
      have H2 := MR_sam H1 hs2 (by decide)
      have hr2 := hr.sam hs2 (by decide)
      unfold lp_X3_floor_27
      refine brN.mk (fun c => ?_) (fun c => ?_)
      · have e := (hr.neg hi).mp c
        subst e
        rw [flr_0] at hp1 hp2
        by_cases eb : b = 0
        · exact hp2 eb s2 H2 (hb2 eb) bk
        · rw [(hb1 eb).1]; exact hp1 eb s2 H2 (hb1 eb).2
      · have ei : i ≠ 0 := fun q => c ((hr.neg hi).mpr q)
        have hS := hi.resolve_left ei
        obtain ⟨i0, ⟨p0, p1, -, -, p4, p5⟩, -⟩ := hr2.1 i hS
        obtain ⟨w1, w2, -⟩ := hw i i0 hin
        have hlen := nd_len hw i0 hin
        rw [flr_eq hw i0 hin] at hp1 hp2
        rw [mI_s rl ei]
        refine rdA.mk (rl i) rfl p0 (by omega) ?_
        rw [p1]
        refine brN.mk (fun c2 => ?_) (fun c2 => ?_)
        · rw [if_pos c2] at hp1 hp2
          refine nmI.mk (stF.mk ?_)
          refine rdA.mk (rl i) rfl p0 (by omega) ?_
          rw [cset_ne _ _ (by decide), p4]
          exact ih _ b bk _ (by omega) (repM_kid hr hS).1 (by omega) (hs2.tr (sam.cs (by decide))) (fun e => ⟨(hb1 e).1, by rw [cset_eq]; exact (hb1 e).2⟩) (fun e => by rw [cset_eq]; exact hb2 e) hp1 hp2
        · rw [if_neg c2] at hp1 hp2
          refine rdA.mk (rl i) rfl p0 (by omega) (stF.mk ?_)
          refine rdA.mk (rl i) rfl p0 (by omega) ?_
          rw [cset_ne _ _ (by decide), p5, p1]
          exact ih _ i (gK g i) _ (by omega) (repM_kid hr hS).2 (by omega) (hs2.tr (sam.cs (by decide))) (fun _ => ⟨rfl, by rw [cset_eq]⟩) (fun e => absurd e ei) hp1 hp2
  refine has_spec H1 (fun h h1 e h2 => brN.mf (by decide) ?_) (fun q => brN.mt rfl ⟨1, ?_⟩)
  · refine rdA.mk h e (by omega) (by omega) ?_
    rw [hro h h1 h2]
    refine ⟨_, lp _ (rt h) 0 0 s1 (Nat.lt_succ_self _) (liv_rt hw hrt h1 h2) (hrt h h1 h2) sam.rf (fun q => absurd rfl q) (fun _ => h01) (fun q s3 H3 h3 => hy h h1 e h2 q s3 H3 h3) (fun q s3 H3 h3 r => ?_)⟩
    refine hn (fun ⟨j, a, b, c, d⟩ => d ?_) s3 H3 h3 r
    have : j = h := (nI_eq (by omega) (by omega)).mp (by rw [← b, ← e])
    rw [this]; exact q
  · unfold lp_X3_floor_27
    exact brN.mt (by decide) (hn (fun ⟨h, a, b, c, _⟩ => q ⟨h, a, b, c⟩) s1 H1 h01 0)
end OpsM3
