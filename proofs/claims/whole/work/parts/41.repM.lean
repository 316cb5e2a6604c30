/-! the reference's rows as a picture of the log -/
def mI (rl : Nat → Nat) (i : Nat) : Int32 := if i = 0 then -1 else nI (rl i)
theorem mI_0 (rl : Nat → Nat) : mI rl 0 = -1 := by simp [mI]
theorem mI_s (rl : Nat → Nat) {i : Nat} (h : i ≠ 0) : mI rl i = nI (rl i) := by simp [mI, h]
def nodM (s : CS) (g : LG) (rl : Nat → Nat) (i : Nat) : Prop := rl i < 160 ∧ s 6 (rl i) = gK g i ∧ s 7 (rl i) = gV g i ∧ s 8 (rl i) = gW g i ∧ s 9 (rl i) = mI rl (gL g i) ∧ s 10 (rl i) = mI rl (gR g i)
def repM (s : CS) (g : LG) (rl : Nat → Nat) (S : Nat → Prop) : Prop := (∀ i, S i → 0 < i ∧ nodM s g rl i ∧ (gL g i ≠ 0 → S (gL g i)) ∧ (gR g i ≠ 0 → S (gR g i))) ∧ (∀ i j, S i → S j → rl i = rl j → i = j)
theorem repM.sam {s s' : CS} {g : LG} {rl : Nat → Nat} {S : Nat → Prop} {J : List Nat} (h : repM s g rl S) (hs : sam J s s') (hJ : ∀ j ∈ J, j < 6 ∨ 10 < j) : repM s' g rl S := by
  have e : ∀ j, 6 ≤ j → j ≤ 10 → s' j = s j := fun j h1 h2 => hs j (fun q => by have := hJ j q; omega)
  refine ⟨fun i hi => ?_, h.2⟩
  obtain ⟨a, b, c⟩ := h.1 i hi
  refine ⟨a, ?_, c⟩
  unfold nodM at *
  rw [e 6 (by decide) (by decide), e 7 (by decide) (by decide), e 8 (by decide) (by decide), e 9 (by decide) (by decide), e 10 (by decide) (by decide)]
  exact b
theorem repM.neg {s : CS} {g : LG} {rl : Nat → Nat} {S : Nat → Prop} (h : repM s g rl S) {i : Nat} (hi : i = 0 ∨ S i) : mI rl i < 0 ↔ i = 0 := by
  constructor
  · intro e
    rcases hi with q | q
    · exact q
    · obtain ⟨i0, ⟨hl, -⟩, -⟩ := h.1 i q
      rw [mI_s rl (by omega)] at e
      exact absurd e (nI_pos (by omega))
  · intro e; rw [e, mI_0]; decide
theorem repM_kid {s : CS} {g : LG} {rl : Nat → Nat} {S : Nat → Prop} (h : repM s g rl S) {i : Nat} (hi : S i) : (gL g i = 0 ∨ S (gL g i)) ∧ (gR g i = 0 ∨ S (gR g i)) := by
  obtain ⟨h0, -, hl, hr'⟩ := h.1 i hi
  exact ⟨by by_cases e : gL g i = 0; exact Or.inl e; exact Or.inr (hl e), by by_cases e : gR g i = 0; exact Or.inl e; exact Or.inr (hr' e)⟩
theorem repM_nd {n : Nat} {s : CS} {g : LG} {rl : Nat → Nat} {S : Nat → Prop} (h : repM s g rl S) (hw : wfG g n) : ∀ {i : Nat}, i ≤ n → S i → ∀ j ∈ nd g i, S j := by
  intro i
  induction i using Nat.strongRecOn with
  | _ i ih =>
    intro hi hS j hj
    obtain ⟨h0, -, hl, hr⟩ := h.1 i hS
    obtain ⟨w1, w2, -⟩ := hw i h0 hi
    rw [nd_eq hw h0 hi] at hj
    rcases List.mem_append.mp hj with q | q
    · by_cases e : gL g i = 0
      · rw [e, nd_0] at q; cases q
      · exact ih _ w1 (by omega) (hl e) j q
    · rcases List.mem_cons.mp q with q | q
      · rw [q]; exact hS
      · by_cases e : gR g i = 0
        · rw [e, nd_0] at q; cases q
        · exact ih _ w2 (by omega) (hr e) j q
/-- a row of marks -/
def RMK (mi : Nat) (s : CS) (rl : Nat → Nat) (S : Nat → Prop) (M : Nat → Bool) : Prop := (∀ x, x < 160 → isB (s mi x)) ∧ (∀ i, S i → (s mi (rl i) = 1 ↔ M i = true)) ∧ (∀ x, x < 160 → s mi x = 1 → ∃ i, S i ∧ M i = true ∧ rl i = x)
/-- sum of the sizes of the trees that wait -/
def szs (g : LG) : List Nat → Nat
  | [] => 0
  | x :: l => (nd g x).length + szs g l
theorem szs_app (g : LG) : ∀ (l l' : List Nat), szs g (l ++ l') = szs g l + szs g l'
  | [], l' => by simp [szs]
  | x :: l, l' => by rw [List.cons_append, szs, szs, szs_app g l l']; omega
theorem szs_len {g : LG} : ∀ {l : List Nat}, (∀ x ∈ l, 0 < (nd g x).length) → l.length ≤ szs g l
  | [], _ => Nat.le_refl _
  | x :: l, h => by
    rw [List.length_cons, szs]
    have := szs_len (fun y hy => h y (List.mem_cons_of_mem _ hy))
    have := h x List.mem_cons_self
    omega
section MarkM
variable {n : Nat} {s : CS} {g : LG} {rl : Nat → Nat} {S : Nat → Prop}
/-- the marking of a tree in the reference, at the loop's head -/
def mIn (mi : Nat) (s0 : CS) (g : LG) (rl : Nat → Nat) (S : Nat → Prop) (M : Nat → Bool) (i : Nat) (s : CS) (st P : List Nat) : Prop :=
  sam [mi, 13, 14] s0 s ∧ RMK mi s rl S (mu M P) ∧ s 14 0 = nI st.length ∧ (∀ j, j < st.length → s 13 j = nI (rl (st.getD j 0))) ∧ P.Nodup ∧ (∀ x ∈ P, x ∈ nd g i ∧ M x = false) ∧ (∀ x ∈ st, x ∈ nd g i) ∧ szs g st ≤ (nd g i).length ∧ (∀ x, mu M P x = true → (gL g x ≠ 0 → mu M P (gL g x) = true ∨ gL g x ∈ st) ∧ (gR g x ≠ 0 → mu M P (gR g x) = true ∨ gR g x ∈ st)) ∧ ctB (s mi) 160 = ctB (s0 mi) 160 + P.length ∧ (mu M P i = true ∨ i ∈ st)
/-- one more on the stack -/
def psh (s : CS) (q : Nat) (v : Int32) : CS := cset (cset s 13 (upd (s 13) q v)) 14 (fun _ => nI (q + 1))
theorem psh_ne (s : CS) (q : Nat) (v : Int32) {j : Nat} (h1 : j ≠ 13) (h2 : j ≠ 14) : psh s q v j = s j := by
  unfold psh; rw [cset_ne _ _ h2, cset_ne _ _ h1]
theorem mIn_psh {mi : Nat} (h13 : mi ≠ 13) (h14 : mi ≠ 14) {s0 : CS} {M : Nat → Bool} {i : Nat} {st P : List Nat} {c : Nat}
    (h : sam [mi, 13, 14] s0 s ∧ s 14 0 = nI st.length ∧ (∀ j, j < st.length → s 13 j = nI (rl (st.getD j 0)))) :
    sam [mi, 13, 14] s0 (psh s st.length (nI (rl c))) ∧ psh s st.length (nI (rl c)) mi = s mi ∧ psh s st.length (nI (rl c)) 14 0 = nI (st ++ [c]).length ∧ (∀ j, j < (st ++ [c]).length → psh s st.length (nI (rl c)) 13 j = nI (rl ((st ++ [c]).getD j 0))) := by
  obtain ⟨h1, h2, h3⟩ := h
  refine ⟨h1.tr ((sam.cs (by simp)).tr (sam.cs (by simp))), psh_ne s _ _ h13 h14, ?_, fun j hj => ?_⟩
  · unfold psh; rw [cset_eq]; simp
  · unfold psh
    rw [cset_ne _ _ (by decide), cset_eq, upd_ap]
    rw [List.length_append, List.length_singleton] at hj
    by_cases e : j = st.length
    · rw [if_pos e, e, getD_app_last]
    · rw [if_neg e, getD_app_lt st c (by omega)]; exact h3 j (by omega)
theorem mark_loop {mi : Nat} (hmi : mi = 11 ∨ mi = 12) (hr : repM s g rl S) (hw : wfG g n) {M : Nat → Bool} {i : Nat} (hi : S i) (hin : i ≤ n) (hsz : (nd g i).length ≤ 40) {post : Int32 → CS → Prop}
    (hp : ∀ s' P, mIn mi s g rl S M i s' [] P → post (nI P.length) s') :
    ∀ (f : Nat) (st P : List Nat) (s1 : CS), szs g st < f → mIn mi s g rl S M i s1 st P → lp_X3_mark_23 mi post f (nI P.length) s1 := by
  have m13 : mi ≠ 13 := by omega
  have m14 : mi ≠ 14 := by omega
  intro f
  induction f with
  | zero => intro st P s1 hf; exact absurd hf (Nat.not_lt_zero _)
  | succ f ih =>
    intro st P s1 hf hI
    obtain ⟨hs, hm, htop, hst, hPn, hPm, hsd, hsz2, hcl, hct, hmi2⟩ := id hI
    have hpos : ∀ x ∈ st, 0 < (nd g x).length := by
      intro x hx
      have hx' := nd_le (hsd x hx)
      have := nd_len hw hx'.1 (by omega); omega
    have hstl := szs_len hpos
    have hPl := len_sub hPn (fun x hx => (hPm x hx).1)
    unfold lp_X3_mark_23
    refine nmI.mk ?_
    rw [htop]
    by_cases hst0 : st = []
    · subst hst0
      exact brN.mt (by decide) (hp s1 P hI)
    · obtain ⟨st0, x, rfl⟩ : ∃ st0 x, st = st0 ++ [x] := ⟨st.dropLast, st.getLast hst0, (List.dropLast_concat_getLast hst0).symm⟩
      have hl0 : (st0 ++ [x]).length = st0.length + 1 := by simp
      rw [hl0] at hst hstl ⊢
      have hxd := hsd x (List.mem_append_right _ List.mem_cons_self)
      have hx0 := nd_le hxd
      have hSx : S x := repM_nd hr hw hin hi x hxd
      have hxn : x ≤ n := by omega
      obtain ⟨w1, w2, -⟩ := hw x hx0.1 hxn
      have hxl := nd_len hw hx0.1 hxn
      rw [szs_app] at hf hsz2 hstl
      have hszx : szs g [x] = (nd g x).length := by simp [szs]
      rw [hszx] at hf hsz2 hstl
      refine brN.mf (nI_nle (by omega) (by omega)) (nmI.mk (nmI.mk ?_))
      rw [nI_pred]
      refine stF.mk (nmI.mk ?_)
      rw [cset_eq]
      have hs2 : sam [mi, 13, 14] s (cset s1 14 (fun _ => nI st0.length)) := hs.tr (sam.cs (by simp))
      have h13 : cset s1 14 (fun _ => nI st0.length) 13 = s1 13 := cset_ne _ _ (by decide)
      have hmm : cset s1 14 (fun _ => nI st0.length) mi = s1 mi := cset_ne _ _ m14
      have h140 : cset s1 14 (fun _ => nI st0.length) 14 0 = nI st0.length := by rw [cset_eq]
      refine rdA.mk st0.length rfl (by omega) (by omega) ?_
      rw [h13, hst st0.length (by omega), getD_app_last]
      have hst2 : ∀ j, j < st0.length → cset s1 14 (fun _ => nI st0.length) 13 j = nI (rl (st0.getD j 0)) := by
        intro j hj; rw [h13, hst j (by omega), getD_app_lt st0 x hj]
      generalize cset s1 14 (fun _ => nI st0.length) = s2 at hs2 hmm h140 hst2 ⊢
      have hm2 : RMK mi s2 rl S (mu M P) := by unfold RMK at hm ⊢; rw [hmm]; exact hm
      have hct2 : ctB (s2 mi) 160 = ctB (s mi) 160 + P.length := by rw [hmm]; exact hct
      have hr2 := hr.sam hs2 (by intro j hj; simp at hj; omega)
      obtain ⟨-, ⟨hxr, -, -, -, hxL, hxR⟩, -⟩ := hr2.1 x hSx
      refine rdA.mk (rl x) rfl hxr (by omega) ?_
      refine brN.mk (fun c => ?_) (fun c => ?_)
      · -- not marked yet
        have hMx : mu M P x = false := by
          cases h : mu M P x with
          | false => rfl
          | true => have := (hm2.2.1 x hSx).mpr h; rw [c] at this; exact absurd this (by decide)
        refine wrZ.mk (rl x) rfl hxr (by omega) isB_1 (nmI.mk ?_)
        rw [nI_1]
        have hP2 : P.length + 1 = (P ++ [x]).length := by simp
        rw [hP2]
        have hs3 : sam [mi, 13, 14] s (cset s2 mi (upd (s2 mi) (rl x) 1)) := hs2.tr (sam.cs (by simp))
        have h143 : cset s2 mi (upd (s2 mi) (rl x) 1) 14 0 = nI st0.length := by rw [cset_ne _ _ (fun e => m14 e.symm)]; exact h140
        have hst3 : ∀ j, j < st0.length → cset s2 mi (upd (s2 mi) (rl x) 1) 13 j = nI (rl (st0.getD j 0)) := by
          intro j hj; rw [cset_ne _ _ (fun e => m13 e.symm)]; exact hst2 j hj
        have hm3 : RMK mi (cset s2 mi (upd (s2 mi) (rl x) 1)) rl S (mu M (P ++ [x])) := by
          rw [← mu_app]
          refine ⟨fun y hy => ?_, fun j hj => ?_, fun y hy e => ?_⟩
          · rw [cset_eq, upd_ap]
            by_cases e : y = rl x
            · rw [if_pos e]; exact isB_1
            · rw [if_neg e]; exact hm2.1 y hy
          · rw [cset_eq, upd_ap, mu_iff]
            by_cases e : rl j = rl x
            · have := hr.2 j x hj hSx e
              rw [if_pos e]; simp [this]
            · rw [if_neg e, hm2.2.1 j hj]
              have hji : j ≠ x := fun e' => e (by rw [e'])
              simp [hji]
          · rw [cset_eq, upd_ap] at e
            by_cases e' : y = rl x
            · exact ⟨x, hSx, mu_iff.mpr (Or.inr List.mem_cons_self), e'.symm⟩
            · rw [if_neg e'] at e
              obtain ⟨j, j1, j2, j3⟩ := hm2.2.2 y hy e
              exact ⟨j, j1, mu_iff.mpr (Or.inl j2), j3⟩
        have hct3 : ctB (cset s2 mi (upd (s2 mi) (rl x) 1) mi) 160 = ctB (s mi) 160 + (P ++ [x]).length := by
          rw [cset_eq, ctB_upd (by rw [c]; decide) hxr, hct2]; simp; omega
        generalize cset s2 mi (upd (s2 mi) (rl x) 1) = s3 at hs3 h143 hst3 hm3 hct3 ⊢
        have hr3 := hr.sam hs3 (by intro j hj; simp at hj; omega)
        obtain ⟨-, ⟨-, -, -, -, hxL3, hxR3⟩, -⟩ := hr3.1 x hSx
        have hPn2 : (P ++ [x]).Nodup := by
          rw [List.nodup_append]
          refine ⟨hPn, by simp, fun a ha b hb e => ?_⟩
          simp at hb; subst hb; subst e
          rw [mu_iff.mpr (Or.inr ha)] at hMx; cases hMx
        have hPm2 : ∀ y ∈ P ++ [x], y ∈ nd g i ∧ M y = false := by
          intro y hy
          rcases List.mem_append.mp hy with q | q
          · exact hPm y q
          · simp at q; subst q
            refine ⟨hxd, ?_⟩
            cases h : M y with
            | false => rfl
            | true => rw [mu_iff.mpr (Or.inl h)] at hMx; cases hMx
        have hkL : gL g x ≠ 0 → gL g x ∈ nd g i := fun e => nd_left hw hin hxd e
        have hkR : gR g x ≠ 0 → gR g x ∈ nd g i := fun e => nd_right hw hin hxd e
        have inc : ∀ y, mu M P y = true → mu M (P ++ [x]) y = true := fun y hy => by rw [← mu_app]; exact mu_iff.mpr (Or.inl hy)
        -- the rest of the invariant for a stack that holds the old one and both children
        have rest : ∀ (st' : List Nat) (s4 : CS), (∀ y ∈ st0, y ∈ st') → (gL g x ≠ 0 → gL g x ∈ st') → (gR g x ≠ 0 → gR g x ∈ st') → (∀ y ∈ st', y ∈ nd g i) → szs g st' ≤ szs g st0 + ((nd g (gL g x)).length + (nd g (gR g x)).length) → sam [mi, 13, 14] s s4 → s4 mi = s3 mi → s4 14 0 = nI st'.length → (∀ j, j < st'.length → s4 13 j = nI (rl (st'.getD j 0))) → lp_X3_mark_23 mi post f (nI (P ++ [x]).length) s4 := by
          intro st' s4 a1 a2 a3 a4 a5 a6 a7 a8 a9
          refine ih st' (P ++ [x]) s4 (by omega) ⟨a6, by unfold RMK at hm3 ⊢; rw [a7]; exact hm3, a8, a9, hPn2, hPm2, a4, by omega, fun y hy => ?_, by rw [a7]; exact hct3, ?_⟩
          · rw [← mu_app] at hy
            rcases mu_iff.mp hy with q | q
            · obtain ⟨b1, b2⟩ := hcl y q
              refine ⟨fun e => ?_, fun e => ?_⟩
              · rcases b1 e with z | z
                · exact Or.inl (inc _ z)
                · rcases List.mem_append.mp z with z | z
                  · exact Or.inr (a1 _ z)
                  · simp at z; rw [z]; exact Or.inl (by rw [← mu_app]; exact mu_iff.mpr (Or.inr List.mem_cons_self))
              · rcases b2 e with z | z
                · exact Or.inl (inc _ z)
                · rcases List.mem_append.mp z with z | z
                  · exact Or.inr (a1 _ z)
                  · simp at z; rw [z]; exact Or.inl (by rw [← mu_app]; exact mu_iff.mpr (Or.inr List.mem_cons_self))
            · simp at q; subst q
              exact ⟨fun e => Or.inr (a2 e), fun e => Or.inr (a3 e)⟩
          · rcases hmi2 with z | z
            · exact Or.inl (inc _ z)
            · rcases List.mem_append.mp z with z | z
              · exact Or.inr (a1 _ z)
              · simp at z; rw [z]; exact Or.inl (by rw [← mu_app]; exact mu_iff.mpr (Or.inr List.mem_cons_self))
        have hin0 : ∀ y ∈ st0, y ∈ nd g i := fun y hy => hsd y (List.mem_append_left _ hy)
        have hszn : ∀ c : Nat, szs g [c] = (nd g c).length := fun c => by simp [szs]
        -- pushing the right child, on any state behind
        have pR : ∀ (st' : List Nat) (s4 : CS), (∀ y ∈ st0, y ∈ st') → (gL g x ≠ 0 → gL g x ∈ st') → (∀ y ∈ st', y ∈ nd g i) → szs g st' ≤ szs g st0 + (nd g (gL g x)).length → sam [mi, 13, 14] s s4 → s4 mi = s3 mi → s4 14 0 = nI st'.length → (∀ j, j < st'.length → s4 13 j = nI (rl (st'.getD j 0))) → st'.length ≤ 80 →
            rdA (s4 10) 160 (nI (rl x)) (fun z30 => brN (z30 < 0) (lp_X3_mark_23 mi post f (nI (P ++ [x]).length) s4) (nmI (s4 14 0) (fun z32 => rdA (s4 10) 160 (nI (rl x)) (fun z33 => wrA s4 13 160 z32 z33 (fun u34 => nmI (u34 14 0) (fun z35 => nmI (z35 + 1) (fun z36 => stF u34 14 z36 (fun u37 => lp_X3_mark_23 mi post f (nI (P ++ [x]).length) u37)))))))) := by
          intro st' s4 a1 a2 a4 a5 a6 a7 a8 a9 a10
          have hr4 := hr.sam a6 (by intro j hj; simp at hj; omega)
          obtain ⟨-, ⟨-, -, -, -, -, hxR4⟩, -⟩ := hr4.1 x hSx
          refine rdA.mk (rl x) rfl hxr (by omega) ?_
          rw [hxR4]
          refine brN.mk (fun c2 => ?_) (fun c2 => ?_)
          · have e := (hr.neg (repM_kid hr hSx).2).mp c2
            exact rest st' s4 a1 a2 (fun q => absurd e q) a4 (by omega) a6 a7 a8 a9
          · have e : gR g x ≠ 0 := fun q => c2 ((hr.neg (repM_kid hr hSx).2).mpr q)
            refine nmI.mk ?_
            rw [a8]
            refine rdA.mk (rl x) rfl hxr (by omega) ?_
            rw [hxR4, mI_s rl e]
            refine wrA.mk st'.length rfl (by omega) (by omega) (nmI.mk (nmI.mk (stF.mk ?_)))
            have e14 : cset s4 13 (upd (s4 13) st'.length (nI (rl (gR g x)))) 14 0 = nI st'.length := by rw [cset_ne _ _ (by decide), a8]
            rw [e14, nI_1]
            obtain ⟨b1, b2, b3, b4⟩ := mIn_psh (rl := rl) (M := M) (i := i) (P := P) (c := gR g x) m13 m14 ⟨a6, a8, a9⟩
            refine rest (st' ++ [gR g x]) _ (fun y hy => List.mem_append_left _ (a1 y hy)) (fun q => List.mem_append_left _ (a2 q)) (fun _ => List.mem_append_right _ List.mem_cons_self) (fun y hy => ?_) (by rw [szs_app, hszn]; omega) b1 (b2.trans a7) b3 b4
            rcases List.mem_append.mp hy with q | q
            · exact a4 y q
            · simp at q; rw [q]; exact hkR e
        refine rdA.mk (rl x) rfl hxr (by omega) ?_
        rw [hxL3]
        refine brN.mk (fun c2 => ?_) (fun c2 => ?_)
        · have e := (hr.neg (repM_kid hr hSx).1).mp c2
          exact pR st0 s3 (fun y hy => hy) (fun q => absurd e q) hin0 (by omega) hs3 rfl h143 hst3 (by omega)
        · have e : gL g x ≠ 0 := fun q => c2 ((hr.neg (repM_kid hr hSx).1).mpr q)
          refine nmI.mk ?_
          rw [h143]
          refine rdA.mk (rl x) rfl hxr (by omega) ?_
          rw [hxL3, mI_s rl e]
          refine wrA.mk st0.length rfl (by omega) (by omega) (nmI.mk (nmI.mk (stF.mk ?_)))
          have e14 : cset s3 13 (upd (s3 13) st0.length (nI (rl (gL g x)))) 14 0 = nI st0.length := by rw [cset_ne _ _ (by decide), h143]
          rw [e14, nI_1]
          obtain ⟨b1, b2, b3, b4⟩ := mIn_psh (rl := rl) (M := M) (i := i) (P := P) (c := gL g x) m13 m14 ⟨hs3, h143, hst3⟩
          refine pR (st0 ++ [gL g x]) _ (fun y hy => List.mem_append_left _ hy) (fun _ => List.mem_append_right _ List.mem_cons_self) (fun y hy => ?_) (by rw [szs_app, hszn]; omega) b1 b2 b3 b4 (by simp; omega)
          rcases List.mem_append.mp hy with q | q
          · exact hin0 y q
          · simp at q; rw [q]; exact hkL e
      · -- marked before
        have hMx : mu M P x = true := (hm2.2.1 x hSx).mp ((hm2.1 (rl x) hxr).resolve_left c)
        refine ih st0 P s2 (by omega) ⟨hs2, hm2, h140, hst2, hPn, hPm, fun y hy => hsd y (List.mem_append_left _ hy), by omega, fun y hy => ?_, hct2, ?_⟩
        · obtain ⟨b1, b2⟩ := hcl y hy
          refine ⟨fun e => ?_, fun e => ?_⟩
          · rcases b1 e with z | z
            · exact Or.inl z
            · rcases List.mem_append.mp z with z | z
              · exact Or.inr z
              · simp at z; rw [z]; exact Or.inl hMx
          · rcases b2 e with z | z
            · exact Or.inl z
            · rcases List.mem_append.mp z with z | z
              · exact Or.inr z
              · simp at z; rw [z]; exact Or.inl hMx
        · rcases hmi2 with z | z
          · exact Or.inl z
          · rcases List.mem_append.mp z with z | z
            · exact Or.inr z
            · simp at z; rw [z]; exact Or.inl hMx
theorem mark_spec {mi : Nat} (hmi : mi = 11 ∨ mi = 12) (hr : repM s g rl S) (hw : wfG g n) {M : Nat → Bool} (hm : RMK mi s rl S M) (hcl : clo g M) {i : Nat} (hi : i = 0 ∨ S i) (hin : i ≤ n) (hsz : (nd g i).length ≤ 40) {post : Int32 → CS → Prop}
    (hp : ∀ s', sam [mi, 13, 14] s s' → RMK mi s' rl S (mu M (nd g i)) → ctB (s' mi) 160 = ctB (s mi) 160 + nwc g M i → post (nI (nwc g M i)) s') : wp_X3_mark mi (mI rl i) s post := by
  have m13 : mi ≠ 13 := by omega
  have m14 : mi ≠ 14 := by omega
  unfold wp_X3_mark
  refine stF.mk ?_
  have hs1 : sam [mi, 13, 14] s (cset s 14 (fun _ => 0)) := sam.cs (by simp)
  have hmm1 : cset s 14 (fun _ => 0) mi = s mi := cset_ne _ _ m14
  have h141 : cset s 14 (fun _ => 0) 14 0 = 0 := by rw [cset_eq]
  generalize cset s 14 (fun _ => 0) = s1 at hs1 hmm1 h141 ⊢
  rcases Nat.eq_zero_or_pos i with h0 | h0
  · subst h0
    refine brN.mt (by rw [mI_0]; decide) ⟨1, ?_⟩
    unfold lp_X3_mark_23
    refine nmI.mk (brN.mt (by rw [h141]; decide) ?_)
    have hz : nwc g M 0 = 0 := by unfold nwc; rw [nd_0]; rfl
    have := hp s1 hs1 (by unfold RMK at hm ⊢; rw [hmm1, nd_0, mu_nil]; exact hm) (by rw [hz, hmm1, Nat.add_zero])
    rw [hz] at this; exact this
  · have hS := hi.resolve_left (by omega)
    obtain ⟨-, ⟨hxr, -⟩, -⟩ := hr.1 i hS
    rw [mI_s rl (by omega)]
    refine brN.mf (nI_pos (by omega)) (wrA.mk 0 rfl (by decide) (by decide) (stF.mk ⟨szs g [i] + 1, ?_⟩))
    have hI : mIn mi s g rl S M i (cset (cset s1 13 (upd (s1 13) 0 (nI (rl i)))) 14 (fun _ => 1)) [i] [] := by
      refine ⟨hs1.tr ((sam.cs (by simp)).tr (sam.cs (by simp))), ?_, by rw [cset_eq]; rfl, fun j hj => ?_, List.Pairwise.nil, fun x hx => (by cases hx), fun x hx => ?_, by simp [szs], fun x hx => ?_, ?_, Or.inr List.mem_cons_self⟩
      · unfold RMK at hm ⊢
        rw [cset_ne _ _ m14, cset_ne _ _ m13, hmm1, mu_nil]; exact hm
      · have e : j = 0 := by simp at hj; exact hj
        subst e
        rw [cset_ne _ _ (by decide), cset_eq, upd_ap, if_pos rfl]; rfl
      · simp at hx; subst hx; exact nd_self hw h0 hin
      · rw [mu_nil] at hx ⊢
        exact ⟨fun e => Or.inl ((hcl x hx).1 e), fun e => Or.inl ((hcl x hx).2 e)⟩
      · rw [cset_ne _ _ m14, cset_ne _ _ m13, hmm1, List.length_nil, Nat.add_zero]
    refine mark_loop hmi hr hw hS hin hsz (M := M) (fun s' P hJ => ?_) _ [i] [] _ (Nat.lt_succ_self _) hI
    obtain ⟨hs, hm', -, -, hPn, hPm, -, -, hcl', hct, hmi2⟩ := hJ
    have hcl2 : clo g (mu M P) := fun x hx => ⟨fun e => ((hcl' x hx).1 e).resolve_right (by simp), fun e => ((hcl' x hx).2 e).resolve_right (by simp)⟩
    have hall := hcl2.nd hw hin (hmi2.resolve_right (by simp))
    have e : mu M (nd g i) = mu M P := by
      funext j
      cases h : mu M P j with
      | true =>
        rcases mu_iff.mp h with q | q
        · exact mu_iff.mpr (Or.inl q)
        · exact mu_iff.mpr (Or.inr (hPm j q).1)
      | false =>
        cases h2 : mu M (nd g i) j with
        | false => rfl
        | true =>
          rcases mu_iff.mp h2 with q | q
          · rw [mu_iff.mpr (Or.inl q)] at h; cases h
          · rw [hall j q] at h; cases h
    have hz : nwc g M i = P.length := by
      unfold nwc
      refine Nat.le_antisymm (len_sub ((nd_nodup hw hin).sublist List.filter_sublist) (fun x hx => ?_)) (len_sub hPn (fun x hx => ?_))
      · obtain ⟨x1, x2⟩ := List.mem_filter.mp hx
        rcases mu_iff.mp (hall x x1) with q | q
        · rw [q] at x2; cases x2
        · exact q
      · exact List.mem_filter.mpr ⟨(hPm x hx).1, by rw [(hPm x hx).2]; rfl⟩
    have := hp s' hs (by rw [e]; exact hm') (by rw [hz]; exact hct)
    rw [hz] at this; exact this
end MarkM
