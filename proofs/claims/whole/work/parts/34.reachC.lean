/-! marking the nodes of trees in the class's store, the sweep, the handle -/
theorem len_sub : ∀ {l l' : List Nat}, l.Nodup → (∀ x ∈ l, x ∈ l') → l.length ≤ l'.length
  | [], _, _, _ => Nat.zero_le _
  | a :: l, l', h, hs => by
    have h' := List.nodup_cons.mp h
    have h1 : l.length ≤ (l'.erase a).length := len_sub h'.2 (fun x hx => by
      have hne : x ≠ a := fun e => h'.1 (by rw [← e]; exact hx)
      exact (List.mem_erase_of_ne hne).mpr (hs x (List.mem_cons_of_mem _ hx)))
    have ha := hs a List.mem_cons_self
    rw [List.length_erase_of_mem ha] at h1
    have := List.length_pos_of_mem ha
    rw [List.length_cons]; omega
def mu (M : Nat → Bool) (l : List Nat) : Nat → Bool := fun j => M j || decide (j ∈ l)
theorem mu_iff {M : Nat → Bool} {l : List Nat} {j : Nat} : mu M l j = true ↔ M j = true ∨ j ∈ l := by simp [mu]
theorem mu_nil (M : Nat → Bool) : mu M [] = M := by funext j; simp [mu]
theorem mu_app (M : Nat → Bool) (l l' : List Nat) : mu (mu M l) l' = mu M (l ++ l') := by
  funext j; simp [mu, Bool.or_assoc]
/-- a marked node's children are marked -/
def clo (g : LG) (M : Nat → Bool) : Prop := ∀ j, M j = true → (gL g j ≠ 0 → M (gL g j) = true) ∧ (gR g j ≠ 0 → M (gR g j) = true)
theorem clo.nd {g : LG} {n : Nat} {M : Nat → Bool} (h : clo g M) (hw : wfG g n) : ∀ {i : Nat}, i ≤ n → M i = true → ∀ j ∈ nd g i, M j = true := by
  intro i
  induction i using Nat.strongRecOn with
  | _ i ih =>
    intro hi hm j hj
    rcases Nat.eq_zero_or_pos i with h0 | h0
    · subst h0; rw [nd_0] at hj; cases hj
    · obtain ⟨w1, w2, -⟩ := hw i h0 hi
      rw [nd_eq hw h0 hi] at hj
      rcases List.mem_append.mp hj with q | q
      · by_cases e : gL g i = 0
        · rw [e, nd_0] at q; cases q
        · exact ih _ w1 (by omega) ((h i hm).1 e) j q
      · rcases List.mem_cons.mp q with q | q
        · rw [q]; exact hm
        · by_cases e : gR g i = 0
          · rw [e, nd_0] at q; cases q
          · exact ih _ w2 (by omega) ((h i hm).2 e) j q
theorem clo_mu {g : LG} {n : Nat} {M : Nat → Bool} (h : clo g M) (hw : wfG g n) {i : Nat} (hi : i ≤ n) : clo g (mu M (nd g i)) := by
  intro j hj
  rcases mu_iff.mp hj with q | q
  · exact ⟨fun e => mu_iff.mpr (Or.inl ((h j q).1 e)), fun e => mu_iff.mpr (Or.inl ((h j q).2 e))⟩
  · exact ⟨fun e => mu_iff.mpr (Or.inr (nd_left hw hi q e)), fun e => mu_iff.mpr (Or.inr (nd_right hw hi q e))⟩
def RCH (C : Nat) (s : CS) (pl : Nat → Nat) (S : Nat → Prop) (M : Nat → Bool) : Prop := (∀ p, p ≤ C → isB (s 8 p)) ∧ (∀ i, S i → (s 8 (pl i) = 1 ↔ M i = true)) ∧ (∀ p, p ≤ C → s 8 p = 1 → ∃ i, S i ∧ M i = true ∧ pl i = p)
theorem RCH.z {C : Nat} {s : CS} {g : LG} {pl : Nat → Nat} {S : Nat → Prop} {M : Nat → Bool} (hr : repC C s g pl S) (h : RCH C s pl S M) : s 8 0 = 0 := by
  rcases h.1 0 (Nat.zero_le _) with q | q
  · exact q
  · obtain ⟨i, hi, -, e⟩ := h.2.2 0 (Nat.zero_le _) q
    have := (hr.2.1 i hi).2.1.1.1; omega
section ReachC
variable {C V n : Nat} {s : CS} {g : LG} {pl : Nat → Nat} {S : Nat → Prop}
theorem forget_spec (hr : repC C s g pl S) (hC : C ≤ 40) (h0 : s 8 0 = 0) {post : CS → Prop} (hp : ∀ s', sam [8] s s' → RCH C s' pl S (fun _ => false) → ctB (s' 8) (C + 1) = 0 → post s') : wp_X0_forgetReached C V s post := by
  have lp : ∀ (f p : Nat) (s1 : CS), 1 ≤ p → p ≤ C + 1 → C + 1 < p + f → sam [8] s s1 → (∀ j, j < p → j ≤ C → s1 8 j = 0) → lp_X0_forgetReached_2 C V post f (nI p) s1 := by
    intro f
    induction f with
    | zero =>
      intro p s1 h1 hpm hf hs hz
      omega
    | succ f ih =>
      intro p s1 h1 hpm hf hs hz
      unfold lp_X0_forgetReached_2
      by_cases hpC : p ≤ C
      · refine nmI.mk (brN.mf (fun c => ?_) ?_)
        · exact absurd ((nI_ltI (by omega) (by omega)).mp c) (by omega)
        · refine wrZ.mk p rfl (by omega) (by omega) isB_0 (nmI.mk ?_)
          rw [nI_1]
          refine ih (p + 1) _ (by omega) (by omega) (by omega) (hs.tr (sam.cs (by decide))) (fun j hj hjC => ?_)
          rw [cset_eq, upd_ap]
          by_cases e : j = p
          · rw [if_pos e]
          · rw [if_neg e]; exact hz j (by omega) hjC
      · have hz' : ∀ j, j ≤ C → s1 8 j = 0 := fun j hj => hz j (by omega) hj
        have done : post s1 := by
          refine hp s1 hs ⟨fun p hpc => Or.inl (hz' p hpc), fun i hi => ?_, fun p hpc e => ?_⟩ ?_
          · have := (hr.2.1 i hi).2.1.1.2
            rw [hz' _ this]; simp
          · rw [hz' p hpc] at e; exact absurd e (by decide)
          · have : ∀ m, m ≤ C + 1 → ctB (s1 8) m = 0 := by
              intro m
              induction m with
              | zero => intro _; rfl
              | succ m ihm => intro hm; rw [ctB, ihm (by omega), hz' m (by omega)]; simp
            exact this _ (Nat.le_refl _)
        refine nmI.mk (brN.mk (fun _ => done) (fun c => ?_))
        exfalso
        exact c ((nI_ltI (by omega) (by omega)).mpr (by omega))
  unfold wp_X0_forgetReached
  exact ⟨C + 1, lp (C + 1) 1 s (Nat.le_refl _) (by omega) (by omega) sam.rf (fun j hj _ => by rw [show j = 0 by omega]; exact h0)⟩
/-- what one look at a node lets wait -/
def pnd (M : Nat → Bool) (i : Nat) : List Nat := if i = 0 ∨ M i = true then [] else [i]
theorem pend_spec (hr : repC C s g pl S) (hC : C ≤ 40) {M : Nat → Bool} (hm : RCH C s pl S M) {i q : Nat} (hi : i = 0 ∨ S i) (hq : q ≤ C) {post : Int32 → CS → Prop}
    (hp : ∀ s', sam [8, 9] s s' → RCH C s' pl S (mu M (pnd M i)) → (∀ j, j < q → s' 9 j = s 9 j) → (∀ j, j < (pnd M i).length → s' 9 (q + j) = nI (pl ((pnd M i).getD j 0))) → ctB (s' 8) (C + 1) = ctB (s 8) (C + 1) + (pnd M i).length → post (nI (pnd M i).length) s') :
    wp_X0_pend C V (nI (pl i)) (nI q) s post := by
  unfold wp_X0_pend
  have hle := hr.le hi
  have no : pnd M i = [] → post 0 s := by
    intro e
    rw [e] at hp
    refine hp s sam.rf (by rw [mu_nil]; exact hm) (fun _ _ => rfl) (fun j hj => absurd hj (Nat.not_lt_zero j)) rfl
  refine brN.mk (fun c => ?_) (fun c => ?_)
  · have e : i = 0 := (hr.pos hi).mp ((nI_eq (a := pl i) (b := 0) (by omega) (by decide)).mp c)
    exact no (by simp [pnd, e])
  · have hne : i ≠ 0 := fun e => c (by rw [e, hr.1]; rfl)
    have hS := hi.resolve_left hne
    refine rdA.mk (pl i) rfl (by omega) (by omega) (brN.mk (fun c2 => ?_) (fun c2 => ?_))
    · have hM : M i = false := by
        cases h : M i with
        | false => rfl
        | true => have := (hm.2.1 i hS).mpr h; rw [c2] at this; exact absurd this (by decide)
      have e : pnd M i = [i] := by simp [pnd, hne, hM]
      rw [e] at hp
      refine wrZ.mk (pl i) rfl (by omega) (by omega) isB_1 (wrA.mk q rfl (by omega) (by omega) ?_)
      refine hp _ ((sam.cs (by decide)).tr (sam.cs (by decide))) ⟨fun p hpc => ?_, fun j hj => ?_, fun p hpc e => ?_⟩ (fun j hj => ?_) (fun j hj => ?_) ?_
      · rw [cset_ne _ _ (by decide), cset_eq, upd_ap]
        by_cases e : p = pl i
        · rw [if_pos e]; exact isB_1
        · rw [if_neg e]; exact hm.1 p hpc
      · rw [cset_ne _ _ (by decide), cset_eq, upd_ap, mu_iff]
        by_cases e : pl j = pl i
        · have := hr.2.2.1 j i hj hS e
          rw [if_pos e]; simp [this]
        · rw [if_neg e, hm.2.1 j hj]
          have hji : j ≠ i := fun e' => e (by rw [e'])
          simp [hji]
      · rw [cset_ne _ _ (by decide), cset_eq, upd_ap] at e
        by_cases e' : p = pl i
        · exact ⟨i, hS, mu_iff.mpr (Or.inr List.mem_cons_self), e'.symm⟩
        · rw [if_neg e'] at e
          obtain ⟨j, j1, j2, j3⟩ := hm.2.2 p hpc e
          exact ⟨j, j1, mu_iff.mpr (Or.inl j2), j3⟩
      · rw [cset_eq, upd_ap, if_neg (by omega), cset_ne _ _ (by decide)]
      · have e0 : j = 0 := by simp at hj; exact hj
        subst e0
        rw [cset_eq, upd_ap, if_pos (Nat.add_zero q)]; simp
      · rw [cset_ne _ _ (by decide), cset_eq, ctB_upd (by rw [c2]; decide) (by omega)]; rfl
    · have hM : M i = true := (hm.2.1 i hS).mp ((hm.1 (pl i) hle).resolve_left c2)
      exact no (by simp [pnd, hM])
theorem pnd_len (M : Nat → Bool) (i : Nat) : (pnd M i).length ≤ 1 := by unfold pnd; split <;> simp
theorem pnd_mem {M : Nat → Bool} {i x : Nat} (h : x ∈ pnd M i) : x = i ∧ i ≠ 0 ∧ M i = false := by
  unfold pnd at h
  split at h
  · cases h
  · rename_i c
    simp at h c
    exact ⟨h, c.1, c.2⟩
theorem pnd_or (M : Nat → Bool) (i : Nat) (hi : i ≠ 0) : mu M (pnd M i) i = true := by
  rw [mu_iff]; unfold pnd
  by_cases h : M i = true
  · exact Or.inl h
  · exact Or.inr (by rw [if_neg (by simp [hi, h])]; exact List.mem_cons_self)
theorem pnd_nodup (M : Nat → Bool) (i : Nat) : (pnd M i).Nodup := by unfold pnd; split <;> simp
/-- the marking of a tree, at the loop's head -/
def rIn (C : Nat) (s0 : CS) (g : LG) (pl : Nat → Nat) (S : Nat → Prop) (M : Nat → Bool) (i : Nat) (s : CS) (st P : List Nat) (step : Nat) : Prop :=
  sam [8, 9] s0 s ∧ RCH C s pl S (mu M P) ∧ (∀ j, j < st.length → s 9 j = nI (pl (st.getD j 0))) ∧ P.Nodup ∧ (∀ x ∈ P, x ∈ nd g i ∧ M x = false) ∧ (∀ x ∈ st, x ∈ P) ∧ step + st.length = P.length ∧ (∀ x, mu M P x = true → x ∈ st ∨ ((gL g x ≠ 0 → mu M P (gL g x) = true) ∧ (gR g x ≠ 0 → mu M P (gR g x) = true))) ∧ ctB (s 8) (C + 1) = ctB (s0 8) (C + 1) + P.length ∧ mu M P i = true
theorem reach_loop (hr : repC C s g pl S) (hw : wfG g n) (hC : C ≤ 40) {M : Nat → Bool} {i : Nat} (hi : S i) (hin : i ≤ n) (hsz : (nd g i).length ≤ C) {post : Int32 → CS → Prop}
    (hp : ∀ s' P, rIn C s g pl S M i s' [] P P.length → post (nI P.length) s') :
    ∀ (f step : Nat) (st P : List Nat) (s1 : CS), (nd g i).length < step + f → rIn C s g pl S M i s1 st P step → lp_X0_reach_12 C V post f (nI P.length) (nI st.length) (nI step) s1 := by
  intro f
  induction f with
  | zero =>
    intro step st P s1 hf hI
    have := len_sub hI.2.2.2.1 (fun x hx => (hI.2.2.2.2.1 x hx).1)
    have := hI.2.2.2.2.2.2.1
    omega
  | succ f ih =>
    intro step st P s1 hf hI
    obtain ⟨hs, hm, hst, hPn, hPm, hsP, hlen, hcl, hct, hmi⟩ := id hI
    have hPl := len_sub hPn (fun x hx => (hPm x hx).1)
    have hr1 := hr.sam hs (by decide)
    unfold lp_X0_reach_12
    refine nmI.mk (brN.mk (fun c => ?_) (fun c => ?_))
    · have e : C ≤ step := (nI_leI (by omega) (by omega)).mp c
      have e2 : st.length = 0 := by omega
      have e3 : st = [] := List.length_eq_zero_iff.mp e2
      subst e3
      exact hp s1 P (by rw [show P.length = step by simp at hlen; omega]; exact hI)
    · have hsC : step < C := by
        rcases Nat.lt_or_ge step C with q | q
        · exact q
        · exact absurd (nI_le q (by omega)) c
      refine brN.mk (fun c2 => ?_) (fun c2 => ?_)
      · have e2 : st.length = 0 := by
          rcases Nat.eq_zero_or_pos st.length with q | q
          · exact q
          · exact absurd c2 (nI_nle q (by omega))
        have e3 : st = [] := List.length_eq_zero_iff.mp e2
        subst e3
        exact hp s1 P (by rw [show P.length = step by simp at hlen; omega]; exact hI)
      · have hpos : st.length ≠ 0 := fun e => c2 (by rw [e]; simp [nI])
        have hne : st ≠ [] := fun e => hpos (by rw [e]; rfl)
        obtain ⟨st0, x, rfl⟩ : ∃ st0 x, st = st0 ++ [x] := ⟨st.dropLast, st.getLast hne, (List.dropLast_concat_getLast hne).symm⟩
        have hl0 : (st0 ++ [x]).length = st0.length + 1 := by simp
        rw [hl0] at hst hlen
        refine nmI.mk ?_
        rw [hl0, pk_m1]
        have hxP : x ∈ P := hsP x (List.mem_append_right _ List.mem_cons_self)
        have hxd := (hPm x hxP).1
        have hx0 := nd_le hxd
        have hSx : S x := hr.nd hw hin hi x hxd
        have hxn : x ≤ n := by omega
        obtain ⟨w1, w2, -⟩ := hw x hx0.1 hxn
        obtain ⟨-, ⟨⟨p1, p1'⟩, -, -, -, -, p6, p7, -⟩, -⟩ := hr1.2.1 x hSx
        refine rdA.mk st0.length rfl (by omega) (by omega) ?_
        rw [hst st0.length (by omega), getD_app_last]
        refine rdA.mk (pl x) rfl (by omega) (by omega) ?_
        rw [p6]
        refine pend_spec hr1 hC hm (kid_ok hr hSx).1 (by omega) (fun s2 b1 b2 b3 b4 b5 => ?_)
        have hr2 := hr1.sam b1 (by decide)
        obtain ⟨-, ⟨-, -, -, -, -, -, q7, -⟩, -⟩ := hr2.2.1 x hSx
        refine rdA.mk (pl x) rfl (by omega) (by omega) (nmI.mk ?_)
        rw [q7, nI_add]
        have hD1 := pnd_len (mu M P) (gL g x)
        refine pend_spec hr2 hC b2 (kid_ok hr hSx).2 (by omega) (fun s3 d1 d2 d3 d4 d5 => ?_)
        refine nmI.mk (nmI.mk (nmI.mk (nmI.mk ?_)))
        rw [nI_add, nI_add, nI_add, nI_1]
        rw [mu_app, mu_app] at d2
        rw [mu_app] at b2
        have hD2 := pnd_len (mu (mu M P) (pnd (mu M P) (gL g x))) (gR g x)
        have hor1 := pnd_or (mu M P) (gL g x)
        have hor2 := pnd_or (mu (mu M P) (pnd (mu M P) (gL g x))) (gR g x)
        have hme1 : ∀ y ∈ pnd (mu M P) (gL g x), y = gL g x ∧ gL g x ≠ 0 ∧ mu M P (gL g x) = false := fun y hy => pnd_mem hy
        have hme2 : ∀ y ∈ pnd (mu (mu M P) (pnd (mu M P) (gL g x))) (gR g x), y = gR g x ∧ gR g x ≠ 0 ∧ mu (mu M P) (pnd (mu M P) (gL g x)) (gR g x) = false := fun y hy => pnd_mem hy
        have hnd1 := pnd_nodup (mu M P) (gL g x)
        have hnd2 := pnd_nodup (mu (mu M P) (pnd (mu M P) (gL g x))) (gR g x)
        generalize pnd (mu (mu M P) (pnd (mu M P) (gL g x))) (gR g x) = D2 at d2 d4 d5 hD2 hor2 hme2 hnd2 ⊢
        generalize pnd (mu M P) (gL g x) = D1 at b2 b3 b4 b5 d2 d3 d4 hD1 hor1 hor2 hme1 hme2 hnd1 ⊢
        rw [mu_app, mu_app] at hor2
        rw [mu_app] at hor1
        have hPl' : P.length + (D1.length + D2.length) = (P ++ (D1 ++ D2)).length := by simp
        have hSl' : st0.length + (D1.length + D2.length) = (st0 ++ (D1 ++ D2)).length := by simp
        rw [hPl', hSl']
        have inc : ∀ y, mu M P y = true → mu M (P ++ (D1 ++ D2)) y = true := fun y hy => by
          rcases mu_iff.mp hy with q | q
          · exact mu_iff.mpr (Or.inl q)
          · exact mu_iff.mpr (Or.inr (List.mem_append_left _ q))
        refine ih (step + 1) (st0 ++ (D1 ++ D2)) (P ++ (D1 ++ D2)) s3 (by omega) ⟨hs.tr (b1.tr d1), ?_, fun j hj => ?_, ?_, ?_, ?_, ?_, ?_, ?_, inc i hmi⟩
        · exact d2
        · by_cases j1 : j < st0.length
          · rw [d3 j (by omega), b3 j j1, hst j (by omega), getD_app_lt st0 x j1]
            congr 2
            simp [List.getElem?_append_left j1]
          · by_cases j2 : j < st0.length + D1.length
            · obtain ⟨t, rfl⟩ : ∃ t, j = st0.length + t := ⟨j - st0.length, by omega⟩
              rw [d3 _ j2, b4 t (by omega)]
              congr 2
              simp [List.getElem?_append_right, List.getElem?_append_left (show t < D1.length by omega)]
            · obtain ⟨t, rfl⟩ : ∃ t, j = st0.length + D1.length + t := ⟨j - (st0.length + D1.length), by omega⟩
              rw [d4 t (by simp at hj; omega)]
              congr 2
              rw [← List.append_assoc]
              have : st0.length + D1.length = (st0 ++ D1).length := by simp
              rw [this, List.getD_eq_getElem?_getD, List.getD_eq_getElem?_getD, List.getElem?_append_right (by omega)]
              congr 2
              omega
        · rw [List.nodup_append]
          refine ⟨hPn, ?_, ?_⟩
          · rw [List.nodup_append]
            refine ⟨hnd1, hnd2, fun a ha b hb e => ?_⟩
            have a1 := hme1 a ha
            have a2 := hme2 b hb
            have : mu (mu M P) D1 (gR g x) = true := mu_iff.mpr (Or.inr (by rw [← a2.1, ← e]; exact ha))
            rw [this] at a2; exact absurd a2.2.2 (by simp)
          · intro a ha b hb e
            rcases List.mem_append.mp hb with hb | hb
            · have a1 := hme1 b hb
              have : mu M P (gL g x) = true := mu_iff.mpr (Or.inr (by rw [← a1.1, ← e]; exact ha))
              rw [this] at a1; exact absurd a1.2.2 (by simp)
            · have a2 := hme2 b hb
              have : mu (mu M P) D1 (gR g x) = true := mu_iff.mpr (Or.inl (mu_iff.mpr (Or.inr (by rw [← a2.1, ← e]; exact ha))))
              rw [this] at a2; exact absurd a2.2.2 (by simp)
        · intro y hy
          rcases List.mem_append.mp hy with hy | hy
          · exact hPm y hy
          · rcases List.mem_append.mp hy with hy | hy
            · have a1 := hme1 y hy
              rw [a1.1]
              refine ⟨nd_left hw hin hxd a1.2.1, ?_⟩
              cases h : M (gL g x) with
              | false => rfl
              | true => have := a1.2.2; rw [mu_iff.mpr (Or.inl h)] at this; exact absurd this (by simp)
            · have a1 := hme2 y hy
              rw [a1.1]
              refine ⟨nd_right hw hin hxd a1.2.1, ?_⟩
              cases h : M (gR g x) with
              | false => rfl
              | true => have := a1.2.2; rw [mu_iff.mpr (Or.inl (mu_iff.mpr (Or.inl h)))] at this; exact absurd this (by simp)
        · intro y hy
          rcases List.mem_append.mp hy with hy | hy
          · exact List.mem_append_left _ (hsP y (List.mem_append_left _ hy))
          · exact List.mem_append_right _ hy
        · simp; omega
        · intro y hy
          rcases mu_iff.mp hy with q | q
          · rcases hcl y (mu_iff.mpr (Or.inl q)) with z | z
            · rcases List.mem_append.mp z with z | z
              · exact Or.inl (List.mem_append_left _ z)
              · simp at z; subst z
                right
                refine ⟨fun e => ?_, fun e => ?_⟩
                · rcases mu_iff.mp (hor1 e) with z | z
                  · exact mu_iff.mpr (Or.inl z)
                  · exact mu_iff.mpr (Or.inr (by rw [← List.append_assoc]; exact List.mem_append_left _ z))
                · exact hor2 e
            · exact Or.inr ⟨fun e => inc _ (z.1 e), fun e => inc _ (z.2 e)⟩
          · rcases List.mem_append.mp q with q | q
            · rcases hcl y (mu_iff.mpr (Or.inr q)) with z | z
              · rcases List.mem_append.mp z with z | z
                · exact Or.inl (List.mem_append_left _ z)
                · simp at z; subst z
                  right
                  refine ⟨fun e => ?_, fun e => ?_⟩
                  · rcases mu_iff.mp (hor1 e) with z | z
                    · exact mu_iff.mpr (Or.inl z)
                    · exact mu_iff.mpr (Or.inr (by rw [← List.append_assoc]; exact List.mem_append_left _ z))
                  · exact hor2 e
              · exact Or.inr ⟨fun e => inc _ (z.1 e), fun e => inc _ (z.2 e)⟩
            · exact Or.inl (List.mem_append_right _ q)
        · rw [d5, b5, hct]; simp; omega
/-- how many nodes of a tree are not marked yet -/
def nwc (g : LG) (M : Nat → Bool) (i : Nat) : Nat := ((nd g i).filter (fun j => !M j)).length
theorem reach_spec (hr : repC C s g pl S) (hw : wfG g n) (hC : C ≤ 40) {M : Nat → Bool} (hm : RCH C s pl S M) (hcl : clo g M) {i : Nat} (hi : i = 0 ∨ S i) (hin : i ≤ n) (hsz : (nd g i).length ≤ C) {post : Int32 → CS → Prop}
    (hp : ∀ s', sam [8, 9] s s' → RCH C s' pl S (mu M (nd g i)) → ctB (s' 8) (C + 1) = ctB (s 8) (C + 1) + nwc g M i → post (nI (nwc g M i)) s') : wp_X0_reach C V (nI (pl i)) s post := by
  unfold wp_X0_reach
  refine pend_spec hr hC hm hi (by omega) (q := 0) (fun s1 b1 b2 b3 b4 b5 => ?_)
  rcases Nat.eq_zero_or_pos i with h0 | h0
  · subst h0
    have e : pnd M 0 = [] := by simp [pnd]
    rw [e] at b2 b5 ⊢
    refine ⟨1, ?_⟩
    unfold lp_X0_reach_12
    have hz : nwc g M 0 = 0 := by unfold nwc; rw [nd_0]; rfl
    have : post 0 s1 := by
      have := hp s1 b1 (by rw [nd_0]; exact b2) (by rw [hz, b5]; rfl)
      rw [hz] at this; exact this
    refine nmI.mk (brN.mk (fun _ => this) (fun _ => brN.mt (by decide) this))
  · have hS := hi.resolve_left (by omega)
    refine ⟨(nd g i).length + 1, ?_⟩
    refine reach_loop hr hw hC hS hin hsz (M := M) (fun s' P hI => ?_) _ 0 (pnd M i) (pnd M i) s1 (by omega) ⟨b1, b2, fun j hj => by have := b4 j hj; rw [Nat.zero_add] at this; exact this, pnd_nodup M i, fun x hx => ?_, fun x hx => hx, by omega, fun x hx => ?_, b5, pnd_or M i (by omega)⟩
    · obtain ⟨hs, hm', -, hPn, hPm, -, -, hcl', hct, hmi⟩ := hI
      have hcl2 : clo g (mu M P) := fun x hx => (hcl' x hx).resolve_left (by simp)
      have hall := hcl2.nd hw hin hmi
      have e : mu M (nd g i) = mu M P := by
        funext j
        cases h : mu M P j with
        | true =>
          rcases mu_iff.mp h with q | q
          · exact mu_iff.mpr (Or.inl q)
          · exact mu_iff.mpr (Or.inr (hPm j q).1)
        | false =>
          cases h2 : mu M (nd g i) j with
          | false => rfl
          | true =>
            rcases mu_iff.mp h2 with q | q
            · rw [mu_iff.mpr (Or.inl q)] at h; cases h
            · rw [hall j q] at h; cases h
      have hz : nwc g M i = P.length := by
        unfold nwc
        refine Nat.le_antisymm (len_sub ((nd_nodup hw hin).sublist List.filter_sublist) (fun x hx => ?_)) (len_sub hPn (fun x hx => ?_))
        · obtain ⟨x1, x2⟩ := List.mem_filter.mp hx
          rcases mu_iff.mp (hall x x1) with q | q
          · rw [q] at x2; cases x2
          · exact q
        · exact List.mem_filter.mpr ⟨(hPm x hx).1, by rw [(hPm x hx).2]; rfl⟩
      have := hp s' hs (by rw [e]; exact hm') (by rw [hz]; exact hct)
      rw [hz] at this; exact this
    · have := pnd_mem hx; rw [this.1]; exact ⟨nd_self hw h0 hin, this.2.2⟩
    · rcases mu_iff.mp hx with q | q
      · exact Or.inr ⟨fun e => mu_iff.mpr (Or.inl ((hcl x q).1 e)), fun e => mu_iff.mpr (Or.inl ((hcl x q).2 e))⟩
      · exact Or.inl q
end ReachC
