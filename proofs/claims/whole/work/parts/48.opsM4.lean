/-! the reference's sum, shared, keyAt -/
theorem ctB_0 {f : Nat → Int32} {p : Nat} : ∀ {m : Nat}, p < m → ctB f m = ctB (upd f p 0) m + (if f p = 1 then 1 else 0)
  | 0, h => absurd h (Nat.not_lt_zero _)
  | m + 1, h => by
    rw [ctB, ctB]
    by_cases e : p = m
    · subst e
      have h1 : upd f p 0 p = 0 := by rw [upd_ap, if_pos rfl]
      rw [h1, ctB_cong (f := upd f p 0) (f' := f) (fun j hj => by rw [upd_ap, if_neg (by omega)])]
      simp
    · have h1 : upd f p 0 m = f m := by rw [upd_ap, if_neg (fun q => e q.symm)]
      rw [h1, ctB_0 (show p < m by omega)]; omega
theorem ctB_list (pl : Nat → Nat) {m : Nat} : ∀ (l : List Nat) (f : Nat → Int32), (l.map pl).Nodup → (∀ i ∈ l, pl i < m) → (∀ p, p < m → f p = 1 → ∃ i ∈ l, pl i = p) → ctB f m = (l.filter (fun i => decide (f (pl i) = 1))).length
  | [], f, _, _, hz => by
    have : ∀ m', m' ≤ m → ctB f m' = 0 := by
      intro m'
      induction m' with
      | zero => intro _; rfl
      | succ m' ih =>
        intro hm
        rw [ctB, ih (by omega), if_neg (fun e => ?_)]
        obtain ⟨i, hi, -⟩ := hz m' (by omega) e
        cases hi
    rw [this m (Nat.le_refl _)]; rfl
  | i :: l, f, hn, hlt, hz => by
    rw [List.map_cons, List.nodup_cons] at hn
    have hne : ∀ j ∈ l, pl j ≠ pl i := fun j hj e => hn.1 (by rw [← e]; exact List.mem_map_of_mem hj)
    rw [ctB_0 (hlt i List.mem_cons_self), ctB_list pl l (upd f (pl i) 0) hn.2 (fun j hj => hlt j (List.mem_cons_of_mem _ hj)) (fun p hp e => ?_)]
    · have e1 : l.filter (fun j => decide (upd f (pl i) 0 (pl j) = 1)) = l.filter (fun j => decide (f (pl j) = 1)) := List.filter_congr (fun j hj => by rw [upd_ap, if_neg (hne j hj)])
      rw [e1]
      by_cases c : f (pl i) = 1
      · rw [if_pos c, List.filter_cons_of_pos (by simp [c])]; rfl
      · rw [if_neg c, List.filter_cons_of_neg (by simp [c])]; rfl
    · rw [upd_ap] at e
      by_cases c : p = pl i
      · rw [if_pos c] at e; exact absurd e (by decide)
      · rw [if_neg c] at e
        obtain ⟨j, j1, j2⟩ := hz p hp e
        rcases List.mem_cons.mp j1 with q | q
        · rw [q] at j2; exact absurd j2.symm c
        · exact ⟨j, q, j2⟩
theorem srt_rank {g : LG} : ∀ {l : List Nat} {q : Nat}, l.Pairwise (fun a b => gK g a < gK g b) → q < l.length → (l.filter (fun i => decide (gK g i < gK g (l.getD q 0)))).length = q
  | [], q, _, h => absurd h (Nat.not_lt_zero _)
  | a :: l, q, hs, h => by
    have hs' := List.pairwise_cons.mp hs
    cases q with
    | zero =>
      rw [List.getD_cons_zero, List.length_eq_zero_iff, List.filter_eq_nil_iff]
      intro x hx
      rcases List.mem_cons.mp hx with e | e
      · rw [e]; simp [i32_irr]
      · simp [i32_lt_asymm (hs'.1 x e)]
    | succ q =>
      rw [List.getD_cons_succ]
      have hq : q < l.length := by simpa using h
      have hlt := hs'.1 _ (getD_mem hq)
      have e1 : (a :: l).filter (fun i => decide (gK g i < gK g (l.getD q 0))) = a :: l.filter (fun i => decide (gK g i < gK g (l.getD q 0))) := List.filter_cons_of_pos (p := fun i => decide (gK g i < gK g (l.getD q 0))) (decide_eq_true hlt)
      rw [e1, List.length_cons, srt_rank hs'.2 hq]
section OpsM4
variable {C V n : Nat} {s : CS} {g : LG} {rl : Nat → Nat} {lv : Nat → Bool} {rt : Nat → Nat} {sd sw : Int32} {us : Nat}
theorem sumM_spec (H : MR C V s g n rl lv rt sd us sw) {x lo hi : Int32} {post : Int64 → CS → Prop} (hy : ∀ h, h < V → x = nI h → lv h = true → ∀ s2, MR C V s2 g n rl lv rt sd us sw → post (smG g lo hi (rt h)) s2) (hn : (¬ ∃ h, h < V ∧ x = nI h ∧ lv h = true) → ∀ s2, MR C V s2 g n rl lv rt sd us sw → post 0 s2) : wp_X3_sum x lo hi s post := by
  unfold wp_X3_sum
  refine stF.mk ?_
  have H1 := MR_sam H (sam.cs (J := [0]) (i := 0) (f := fun _ => 0) (by decide)) (by decide)
  generalize cset s 0 (fun _ => 0) = s1 at H1 ⊢
  refine clear_spec (fun s2 hs2 hz2 => ?_)
  have H2 := MR_sam H1 hs2 (by decide)
  obtain ⟨⟨hC, hV⟩, hw, hrt, hr, hlv, hro, -⟩ := id H2
  refine has_spec H2 (fun h h1 e h2 => brN.mf (by decide) ?_) (fun q => brN.mt rfl ⟨1, ?_⟩)
  · refine rdA.mk h e (by omega) (by omega) ?_
    rw [hro h h1 h2]
    refine markO_spec H2 hz2 h1 h2 (fun s3 H3 hs3 hm3 => ?_)
    obtain ⟨-, -, -, hr3, -⟩ := id H3
    have hin := hrt h h1 h2
    have hsz := H.size h1 h2
    have hp := hy h h1 e h2 s3 H3
    have hnode : ∀ i ∈ nd g (rt h), liv g lv rt V i := fun i hi => ⟨h, h1, h2, hi⟩
    have key : sm (fun p => if s3 12 p = 0 ∨ s3 6 p < lo ∨ hi < s3 6 p then 0 else (s3 7 p).toInt64) 160 = smG g lo hi (rt h) := by
      rw [sm_list rl (nd g (rt h))]
      · unfold smG
        refine smf_cong (fun i hi' => ?_)
        obtain ⟨-, ⟨-, p1, p2, -⟩, -⟩ := hr3.1 i (hnode i hi')
        have h8 : s3 12 (rl i) = 1 := (hm3.2.1 i (hnode i hi')).mpr (mu_iff.mpr (Or.inr hi'))
        show (if s3 12 (rl i) = 0 ∨ s3 6 (rl i) < lo ∨ hi < s3 6 (rl i) then (0 : Int64) else (s3 7 (rl i)).toInt64) = _
        rw [h8, p1, p2]
        simp
      · exact map_nodup (nd_nodup hw hin) (fun a ha b hb e => hr.2 a b (hnode a ha) (hnode b hb) e)
      · intro i hi'; exact (hr3.1 i (hnode i hi')).2.1.1
      · intro p hp' hq
        have : s3 12 p = 0 := by
          rcases hm3.1 p hp' with q | q
          · exact q
          · obtain ⟨i, i1, i2, i3⟩ := hm3.2.2 p hp' q
            rcases mu_iff.mp i2 with z | z
            · cases z
            · exact absurd i3 (hq i z)
        rw [if_pos (Or.inl this)]
    rcases Nat.eq_zero_or_pos (nd g (rt h)).length with hz | hz
    · refine ⟨1, ?_⟩
      unfold lp_X3_sum_43
      have e0 : smG g lo hi (rt h) = 0 := by
        unfold smG; rw [List.length_eq_zero_iff.mp hz]; rfl
      rw [e0] at hp
      rw [hz]
      exact brN.mk (fun _ => hp) (fun _ => brN.mt (by decide) hp)
    · have lp : ∀ (f p : Nat), p ≤ 160 → 160 < p + f → lp_X3_sum_43 post f lo hi (nI (nd g (rt h)).length) (sm (fun p => if s3 12 p = 0 ∨ s3 6 p < lo ∨ hi < s3 6 p then 0 else (s3 7 p).toInt64) p) (nI p) s3 := by
        intro f
        induction f with
        | zero => intro p a b; omega
        | succ f ih =>
          intro p hp1 hp2
          unfold lp_X3_sum_43
          by_cases e16 : p = 160
          · subst e16
            rw [key]
            exact brN.mt (by decide) hp
          · refine brN.mf (fun c => absurd ((nI_leI (a := 160) (by omega) (by omega)).mp c) (by omega)) (brN.mf (nI_nle hz (by omega)) ?_)
            have hst := ih (p + 1) (by omega) (by omega)
            rw [sm] at hst
            have go := fun (hq9 : (s3 12 p = 0 ∨ s3 6 p < lo ∨ hi < s3 6 p)) => (by have := hst; rw [if_pos hq9, Int64.add_zero] at this; exact this : lp_X3_sum_43 post f lo hi (nI (nd g (rt h)).length) (sm (fun p => if s3 12 p = 0 ∨ s3 6 p < lo ∨ hi < s3 6 p then 0 else (s3 7 p).toInt64) p) (nI (p + 1)) s3)
            refine rdA.mk p rfl (by omega) (by omega) (brN.mk (fun c2 => nmI.mk ?_) (fun c2 => ?_))
            · rw [nI_1]; exact go (Or.inl c2)
            · refine rdA.mk p rfl (by omega) (by omega) (brN.mk (fun c3 => nmI.mk ?_) (fun c3 => ?_))
              · rw [nI_1]; exact go (Or.inr (Or.inl c3))
              · refine rdA.mk p rfl (by omega) (by omega) (brN.mk (fun c4 => nmI.mk ?_) (fun c4 => ?_))
                · rw [nI_1]; exact go (Or.inr (Or.inr c4))
                · refine rdA.mk p rfl (by omega) (by omega) (nmL.mk (nmL.mk (nmI.mk ?_)))
                  rw [nI_1]
                  rw [if_neg (by simp [c2, c3, c4])] at hst
                  exact hst
      exact ⟨161, lp 161 0 (by omega) (by omega)⟩
  · unfold lp_X3_sum_43
    exact brN.mk (fun _ => hn q s2 H2) (fun _ => brN.mt (by decide) (hn q s2 H2))
theorem sharedM_spec (H : MR C V s g n rl lv rt sd us sw) {x y : Int32} {post : Int32 → CS → Prop} (hy : ∀ h j, h < V → x = nI h → lv h = true → j < V → y = nI j → lv j = true → ∀ s2, MR C V s2 g n rl lv rt sd us sw → post (nI (shr g (rt h) (rt j))) s2)
    (hn : (¬ ∃ h, h < V ∧ x = nI h ∧ lv h = true) ∨ (¬ ∃ h, h < V ∧ y = nI h ∧ lv h = true) → ∀ s2, MR C V s2 g n rl lv rt sd us sw → post (-1) s2) : wp_X3_shared x y s post := by
  unfold wp_X3_shared
  refine stF.mk ?_
  have H1 := MR_sam H (sam.cs (J := [0]) (i := 0) (f := fun _ => 0) (by decide)) (by decide)
  generalize cset s 0 (fun _ => 0) = s1 at H1 ⊢
  refine has_spec H1 (fun h h1 e h2 => brN.mf (by decide) ?_) (fun q => brN.mt rfl (hn (Or.inl q) s1 H1))
  refine has_spec H1 (fun j j1 e' j2 => brN.mf (by decide) ?_) (fun q => brN.mt rfl (hn (Or.inr q) s1 H1))
  have hsA := H.size h1 h2
  have hsB := H.size j1 j2
  refine clear_spec (fun s2 hs2 hz2 => ?_)
  have H2 := MR_sam H1 hs2 (by decide)
  obtain ⟨⟨hC, hV⟩, hw, hrt, hr, hlv, hro, -⟩ := id H2
  refine rdA.mk h e (by omega) (by omega) ?_
  rw [hro h h1 h2]
  refine markO_spec H2 hz2 h1 h2 (fun s3 H3 _ _ => ?_)
  refine sizeM_spec H3 (fun j' a1 a2 a3 s4 H4 => ?_) (fun q => absurd ⟨j, j1, e', j2⟩ q)
  have ej : j' = j := (nI_eq (by omega) (by omega)).mp (by rw [← a2, ← e'])
  subst ej
  refine nmI.mk ?_
  rw [nI_add]
  unfold wp_X3_union
  refine clear_spec (fun s5 hs5 hz5 => ?_)
  have H5 := MR_sam H4 hs5 (by decide)
  obtain ⟨-, -, -, -, -, hro5, -⟩ := id H5
  refine rdA.mk h e (by omega) (by omega) ?_
  rw [hro5 h h1 h2]
  refine markO_spec H5 hz5 h1 h2 (fun s6 H6 _ hm6 => ?_)
  obtain ⟨-, -, -, hr6, -, hro6, -⟩ := id H6
  refine rdA.mk j' e' (by omega) (by omega) ?_
  rw [hro6 j' j1 j2]
  refine mark_spec (Or.inr rfl) hr6 hw hm6 (clo_mu (clo_0 g) hw (hrt h h1 h2)) (liv_rt hw hrt j1 j2) (hrt j' j1 j2) (by omega) (fun s7 hs7 hm7 _ => nmI.mk (nmI.mk ?_))
  have hle := nwc_le g (mu m0 (nd g (rt h))) (rt j')
  rw [nI_add, pk_sub (by omega), show (nd g (rt h)).length + (nd g (rt j')).length - ((nd g (rt h)).length + nwc g (mu m0 (nd g (rt h))) (rt j')) = shr g (rt h) (rt j') by unfold shr; omega]
  exact hy h j' h1 e h2 j1 e' j2 s7 (MR_sam H6 hs7 (by decide))
theorem keyAtM_spec (H : MR C V s g n rl lv rt sd us sw) {x z : Int32} {post : Int32 → CS → Prop} (hy : ∀ h, h < V → x = nI h → lv h = true → nth g (rt h) z.toInt ≠ 0 → ∀ s2, MR C V s2 g n rl lv rt sd us sw → s2 0 0 = 0 → post (gK g (nth g (rt h) z.toInt)) s2)
    (hn1 : (¬ ∃ h, h < V ∧ x = nI h ∧ lv h = true) → ∀ s2, MR C V s2 g n rl lv rt sd us sw → s2 0 0 = 1 → post 0 s2)
    (hn2 : ∀ h, h < V → x = nI h → lv h = true → nth g (rt h) z.toInt = 0 → ∀ s2, MR C V s2 g n rl lv rt sd us sw → s2 0 0 = 2 → post 0 s2) : wp_X3_keyAt x z s post := by
  unfold wp_X3_keyAt
  refine stF.mk ?_
  have H1 := MR_sam H (sam.cs (J := [0]) (i := 0) (f := fun _ => 0) (by decide)) (by decide)
  have h01 : cset s 0 (fun _ => 0) 0 0 = 0 := by rw [cset_eq]
  generalize cset s 0 (fun _ => 0) = s1 at H1 h01 ⊢
  refine has_spec H1 (fun h h1 e h2 => brN.mf (by decide) ?_) (fun q => brN.mt rfl ?_)
  · refine clear_spec (fun s2 hs2 hz2 => ?_)
    have H2 := MR_sam H1 hs2 (by decide)
    obtain ⟨⟨hC, hV⟩, hw, hrt, hr, hlv, hro, -⟩ := id H2
    refine rdA.mk h e (by omega) (by omega) ?_
    rw [hro h h1 h2]
    refine markO_spec H2 hz2 h1 h2 (fun s3 H3 hs3 hm3 => ?_)
    obtain ⟨-, -, -, hr3, -⟩ := id H3
    have h03 : s3 0 0 = 0 := by rw [hs3.at 0, hs2.at 0]; exact h01
    have hin := hrt h h1 h2
    have hsz := H.size h1 h2
    have hnode : ∀ i ∈ nd g (rt h), liv g lv rt V i := fun i hi => ⟨h, h1, h2, hi⟩
    have hsrt := nd_srt hw hin
    have hrowM : ∀ p, p < 160 → s3 12 p = 1 → ∃ i ∈ nd g (rt h), rl i = p := by
      intro p hp e
      obtain ⟨i, i1, i2, i3⟩ := hm3.2.2 p hp e
      rcases mu_iff.mp i2 with q | q
      · cases q
      · exact ⟨i, q, i3⟩
    have hrow : ∀ i ∈ nd g (rt h), s3 12 (rl i) = 1 ∧ s3 6 (rl i) = gK g i ∧ rl i < 160 := by
      intro i hi
      obtain ⟨-, ⟨p0, p1, -⟩, -⟩ := hr3.1 i (hnode i hi)
      exact ⟨(hm3.2.1 i (hnode i hi)).mpr (mu_iff.mpr (Or.inr hi)), p1, p0⟩
    have rank : ∀ (kk : Int32) {P : Int32 → CS → Prop}, P (nI ((nd g (rt h)).filter (fun i => decide (gK g i < kk))).length) s3 → wp_X3_rank kk s3 P := by
      intro kk P hP
      have key : ctB (fun p => if s3 12 p = 0 ∨ kk ≤ s3 6 p then 0 else 1) 160 = ((nd g (rt h)).filter (fun i => decide (gK g i < kk))).length := by
        rw [ctB_list rl (nd g (rt h))]
        · congr 1
          refine List.filter_congr (fun i hi => ?_)
          obtain ⟨q1, q2, q3⟩ := hrow i hi
          rw [q1, q2]
          by_cases c : gK g i < kk
          · have : ¬ kk ≤ gK g i := i32_nle.mpr c
            simp [c, this]
          · have : kk ≤ gK g i := i32_nlt.mp c
            simp [c, this]
        · exact map_nodup (nd_nodup hw hin) (fun a ha b hb e => hr.2 a b (hnode a ha) (hnode b hb) e)
        · exact fun i hi => (hrow i hi).2.2
        · intro p hp e
          refine hrowM p hp ?_
          rcases hm3.1 p hp with q | q
          · rw [if_pos (Or.inl q)] at e; exact absurd e (by decide)
          · exact q
      have hle := ctB_le (fun p => if s3 12 p = 0 ∨ kk ≤ s3 6 p then (0 : Int32) else 1)
      have lp : ∀ (f p : Nat), p ≤ 160 → 160 < p + f → lp_X3_rank_4 P f kk (nI (ctB (fun p => if s3 12 p = 0 ∨ kk ≤ s3 6 p then 0 else 1) p)) (nI p) s3 := by
        intro f
        induction f with
        | zero => intro p a b; omega
        | succ f ih =>
          intro p hp1 hp2
          unfold lp_X3_rank_4
          by_cases e16 : p = 160
          · subst e16
            rw [key]
            exact brN.mt (by decide) hP
          · refine brN.mf (fun c => absurd ((nI_leI (a := 160) (by omega) (by omega)).mp c) (by omega)) ?_
            have hst := ih (p + 1) (by omega) (by omega)
            rw [ctB] at hst
            refine rdA.mk p rfl (by omega) (by omega) (brN.mk (fun c2 => nmI.mk ?_) (fun c2 => ?_))
            · rw [nI_1]
              simp only [c2, true_or, if_true] at hst
              simpa using hst
            · refine rdA.mk p rfl (by omega) (by omega) (brN.mk (fun c3 => nmI.mk ?_) (fun c3 => nmI.mk (nmI.mk ?_)))
              · rw [nI_1]
                simp only [c3, or_true, if_true] at hst
                simpa using hst
              · rw [nI_1, nI_1]
                simp only [c2, c3, or_self, if_false, if_true] at hst
                exact hst
      unfold wp_X3_rank
      exact ⟨161, lp 161 0 (by omega) (by omega)⟩
    have lp : ∀ (f p : Nat), p ≤ 160 → 160 < p + f → (nth g (rt h) z.toInt ≠ 0 → p ≤ rl (nth g (rt h) z.toInt)) → lp_X3_keyAt_40 post f z (nI p) s3 := by
      intro f
      induction f with
      | zero => intro p a b; omega
      | succ f ih =>
        intro p hp1 hp2 hpz
        have hmem : nth g (rt h) z.toInt ≠ 0 → nth g (rt h) z.toInt ∈ nd g (rt h) := fun q => nth_mem.resolve_left q
        unfold lp_X3_keyAt_40
        by_cases e16 : p = 160
        · subst e16
          refine brN.mt (by decide) ?_
          unfold wp_X3_fail
          refine stF.mk (hn2 h h1 e h2 (Decidable.byContradiction (fun q => ?_)) _ (MR_sam H3 (sam.cs (J := [0]) (by decide)) (by decide)) (by rw [cset_eq]))
          have := hpz q
          have := (hrow _ (hmem q)).2.2
          omega
        · refine brN.mf (fun c => absurd ((nI_leI (a := 160) (by omega) (by omega)).mp c) (by omega)) ?_
          refine rdA.mk p rfl (by omega) (by omega) (brN.mk (fun c2 => nmI.mk ?_) (fun c2 => ?_))
          · rw [nI_1]
            refine ih (p + 1) (by omega) (by omega) (fun q => ?_)
            have h3 := hpz q
            by_cases e5 : p = rl (nth g (rt h) z.toInt)
            · have := (hrow _ (hmem q)).1; rw [← e5, c2] at this; exact absurd this (by decide)
            · omega
          · obtain ⟨i, i1, i2⟩ := hrowM p (by omega) ((hm3.1 p (by omega)).resolve_left c2)
            obtain ⟨q1, q2, q3⟩ := hrow i i1
            rw [i2] at q2
            refine rdA.mk p rfl (by omega) (by omega) ?_
            rw [q2]
            refine rank (gK g i) ?_
            obtain ⟨t, t1, t2⟩ : ∃ t, t < (nd g (rt h)).length ∧ (nd g (rt h)).getD t 0 = i := by
              obtain ⟨t, t1, t2⟩ := List.getElem_of_mem i1
              exact ⟨t, t1, by rw [List.getD_eq_getElem?_getD, List.getElem?_eq_getElem t1]; exact t2⟩
            have hrk := srt_rank hsrt t1
            rw [t2] at hrk
            rw [hrk]
            refine brN.mk (fun c3 => ?_) (fun c3 => nmI.mk ?_)
            · have ez : z.toInt = t := by rw [← c3]; exact nI_toInt (by omega)
              have en : nth g (rt h) z.toInt = i := by rw [ez, (nth_in (by omega) (by omega)).1]; simpa using t2
              have i0 : i ≠ 0 := by have := nd_le i1; omega
              refine rdA.mk p rfl (by omega) (by omega) ?_
              rw [q2, ← en]
              exact hy h h1 e h2 (by rw [en]; exact i0) s3 H3 h03
            · rw [nI_1]
              refine ih (p + 1) (by omega) (by omega) (fun q => ?_)
              have h3 := hpz q
              by_cases e5 : p = rl (nth g (rt h) z.toInt)
              · exfalso
                have e6 : i = nth g (rt h) z.toInt := hr.2 _ _ (hnode i i1) (hnode _ (hmem q)) (by rw [i2, e5])
                have hz : 0 ≤ z.toInt ∧ z.toInt < (nd g (rt h)).length := by
                  refine Decidable.byContradiction (fun w => q ?_)
                  unfold nth; rw [if_neg w]
                have e7 := (nth_in hz.1 hz.2).1
                have e8 : (nd g (rt h)).getD t 0 = (nd g (rt h)).getD z.toInt.toNat 0 := by rw [t2, e6, e7]
                have e9 : t = z.toInt.toNat := by
                  have r1 := srt_rank hsrt t1
                  have r2 := srt_rank hsrt (q := z.toInt.toNat) (by omega)
                  rw [← e8] at r2; rw [r1] at r2; exact r2
                refine c3 (Int32.toInt_inj.mp ?_)
                rw [nI_toInt (by omega), e9]; omega
              · omega
    exact ⟨161, lp 161 0 (by omega) (by omega) (fun _ => Nat.zero_le _)⟩
  · unfold wp_X3_fail
    exact stF.mk (hn1 q _ (MR_sam H1 (sam.cs (J := [0]) (by decide)) (by decide)) (by rw [cset_eq]))
end OpsM4
