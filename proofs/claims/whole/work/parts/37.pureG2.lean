/-! the ways of the updates keep the log in order -/
theorem lsr_mem {g : LG} {n : Nat} (hw : wfG g n) (k : Int32) : ∀ (i : Nat), i ≤ n → ∀ a ∈ lsr g k i, a ∈ nd g i ∧ gK g a < k := by
  intro i
  induction i using Nat.strongRecOn with
  | _ i ih =>
    intro hi a ha
    rcases Nat.eq_zero_or_pos i with h0 | h0
    · subst h0; rw [lsr_0] at ha; cases ha
    · obtain ⟨w1, w2, -⟩ := hw i h0 hi
      rw [lsr_eq hw h0 hi] at ha
      rw [nd_eq hw h0 hi]
      by_cases c : gK g i < k
      · rw [if_pos c] at ha
        rcases List.mem_cons.mp ha with q | q
        · rw [q]; exact ⟨List.mem_append_right _ List.mem_cons_self, c⟩
        · have := ih _ w2 (by omega) a q
          exact ⟨List.mem_append_right _ (List.mem_cons_of_mem _ this.1), this.2⟩
      · rw [if_neg c] at ha
        have := ih _ w1 (by omega) a ha
        exact ⟨List.mem_append_left _ this.1, this.2⟩
theorem lsr_len {g : LG} {n : Nat} (hw : wfG g n) (k : Int32) : ∀ (i : Nat), i ≤ n → (lsr g k i).length ≤ (nd g i).length := by
  intro i
  induction i using Nat.strongRecOn with
  | _ i ih =>
    intro hi
    rcases Nat.eq_zero_or_pos i with h0 | h0
    · subst h0; rw [lsr_0]; simp
    · obtain ⟨w1, w2, -⟩ := hw i h0 hi
      rw [lsr_eq hw h0 hi]
      have hlen := nd_len hw h0 hi
      by_cases c : gK g i < k
      · rw [if_pos c, List.length_cons]; have := ih _ w2 (by omega); omega
      · rw [if_neg c]; have := ih _ w1 (by omega); omega
theorem lsr_chk {g : LG} {n : Nat} (hw : wfG g n) (k : Int32) : ∀ (i : Nat), i ≤ n → chk g k (lsr g k i).reverse := by
  intro i
  induction i using Nat.strongRecOn with
  | _ i ih =>
    intro hi
    rcases Nat.eq_zero_or_pos i with h0 | h0
    · subst h0; rw [lsr_0]; exact trivial
    · obtain ⟨w1, w2, w3, w4, w5, w6⟩ := hw i h0 hi
      rw [lsr_eq hw h0 hi]
      by_cases c : gK g i < k
      · rw [if_pos c, List.reverse_cons]
        have hrel : ∀ x ∈ nd g (gR g i), relk g k i x := fun x hx => by unfold relk; rw [if_pos c]; exact w4 x hx
        refine chk_snoc (ih _ w2 (by omega)) (fun j hj => ?_) (fun j hj => ?_)
        · have hj' := (lsr_mem hw k _ (by omega) j (List.mem_reverse.mp hj)).1
          exact ⟨hrel j hj', fun x hx => hrel x (off_sub hw (by omega) hj' x hx)⟩
        · have hj' := (lsr_mem hw k _ (by omega) j (List.mem_reverse.mp (List.mem_of_getLast? hj))).1
          exact hp_all hw hi j (by rw [nd_eq hw h0 hi]; exact List.mem_append_right _ (List.mem_cons_of_mem _ hj')) (by have := nd_le hj'; omega)
      · rw [if_neg c]; exact ih _ w1 (by omega)
theorem jnt_all {g : LG} {n : Nat} (hw : wfG g n) (k : Int32) : ∀ (f l r : Nat), l + r < f → l ≤ n → r ≤ n → (∀ x ∈ nd g l, gK g x < k) → (∀ x ∈ nd g r, ¬ gK g x < k) →
    chk g k (jnt g l r).reverse ∧ (∀ a ∈ jnt g l r, a ∈ nd g l ∨ a ∈ nd g r) ∧ jrs g l r ≤ n ∧ (∀ x ∈ nd g (jrs g l r), x ∈ nd g l ∨ x ∈ nd g r) ∧ (∀ a ∈ jnt g l r, (∀ x ∈ nd g (jrs g l r), relk g k a x) ∧ (jrs g l r ≠ 0 → abB g a (jrs g l r) = true)) ∧ (∀ j, (jnt g l r).head? = some j → j ≠ 0 ∧ (j = l ∨ j = r)) ∧ (jnt g l r).length + (nd g (jrs g l r)).length ≤ (nd g l).length + (nd g r).length := by
  intro f
  induction f with
  | zero => intro l r h; omega
  | succ f ih =>
    intro l r hf hl hr kl kr
    rcases Nat.eq_zero_or_pos l with l0 | l0
    · subst l0; rw [jnt_0l, jrs_0l]
      exact ⟨trivial, fun a h => (by cases h), hr, fun x hx => Or.inr hx, fun a h => (by cases h), fun a h => (by simp at h), by simp⟩
    rcases Nat.eq_zero_or_pos r with r0 | r0
    · subst r0; rw [jnt_0r, jrs_0r]
      exact ⟨trivial, fun a h => (by cases h), hl, fun x hx => Or.inl hx, fun a h => (by cases h), fun a h => (by simp at h), by simp⟩
    obtain ⟨w1, w2, w3, w4, w5, w6⟩ := hw l l0 hl
    obtain ⟨v1, v2, v3, v4, v5, v6⟩ := hw r r0 hr
    have lenl := nd_len hw l0 hl
    have lenr := nd_len hw r0 hr
    have sl : nd g l = nd g (gL g l) ++ l :: nd g (gR g l) := nd_eq hw l0 hl
    have sr : nd g r = nd g (gL g r) ++ r :: nd g (gR g r) := nd_eq hw r0 hr
    have inl : ∀ x ∈ nd g (gR g l), x ∈ nd g l := fun x hx => by rw [sl]; exact List.mem_append_right _ (List.mem_cons_of_mem _ hx)
    have inr : ∀ x ∈ nd g (gL g r), x ∈ nd g r := fun x hx => by rw [sr]; exact List.mem_append_left _ hx
    have hll := nd_self hw l0 hl
    have hrr := nd_self hw r0 hr
    have cross : ∀ x ∈ nd g l, ∀ y ∈ nd g r, gK g x < gK g y := by
      intro x hx y hy
      have a1 := kl x hx
      have a2 := kr y hy
      rw [Int32.lt_iff_toInt_lt] at *; omega
    rw [jnt_eq hw l0 hl r0 hr, jrs_eq hw l0 hl r0 hr]
    by_cases c : abB g l r = true
    · rw [if_pos c, if_pos c]
      obtain ⟨i1, i2, i3, i4, i5, i6, i7⟩ := ih (gR g l) r (by omega) (by omega) hr (fun x hx => kl x (inl x hx)) kr
      have hrel : ∀ x, x ∈ nd g (gR g l) ∨ x ∈ nd g r → relk g k l x := by
        intro x hx
        unfold relk; rw [if_pos (kl l hll)]
        rcases hx with q | q
        · exact w4 x q
        · exact cross l hll x q
      refine ⟨?_, fun a ha => ?_, i3, fun x hx => (i4 x hx).imp (inl x) id, fun a ha => ?_, fun j hj => ?_, ?_⟩
      · rw [List.reverse_cons]
        refine chk_snoc i1 (fun j hj => ?_) (fun j hj => ?_)
        · have hj' := i2 j (List.mem_reverse.mp hj)
          refine ⟨hrel j hj', fun x hx => hrel x ?_⟩
          rcases hj' with q | q
          · exact Or.inl (off_sub hw (by omega) q x hx)
          · exact Or.inr (off_sub hw (by omega) q x hx)
        · rw [List.getLast?_reverse] at hj
          obtain ⟨j0, q⟩ := i6 j hj
          rcases q with q | q
          · rw [q] at j0 ⊢; exact w6 j0
          · rw [q]; exact c
      · rcases List.mem_cons.mp ha with q | q
        · rw [q]; exact Or.inl hll
        · exact (i2 a q).imp (inl a) id
      · rcases List.mem_cons.mp ha with q | q
        · rw [q]
          refine ⟨fun x hx => hrel x (i4 x hx), fun e => ?_⟩
          rcases i4 _ (nd_self hw (by omega) i3) with z | z
          · have : gR g l ≠ 0 := fun e => by rw [e, nd_0] at z; cases z
            exact hp_le hw (by omega) (w6 this) z
          · exact hp_le hw hr c z
        · exact i5 a q
      · simp at hj; subst hj; exact ⟨by omega, Or.inl rfl⟩
      · rw [List.length_cons]; omega
    · rw [if_neg c, if_neg c]
      obtain ⟨i1, i2, i3, i4, i5, i6, i7⟩ := ih l (gL g r) (by omega) hl (by omega) kl (fun x hx => kr x (inr x hx))
      have c' : abB g r l = true := abv_tot c (i32_lt_ne (cross l hll r hrr))
      have hrel : ∀ x, x ∈ nd g l ∨ x ∈ nd g (gL g r) → relk g k r x := by
        intro x hx
        unfold relk; rw [if_neg (kr r hrr)]
        rcases hx with q | q
        · exact cross x q r hrr
        · exact v3 x q
      refine ⟨?_, fun a ha => ?_, i3, fun x hx => (i4 x hx).imp id (inr x), fun a ha => ?_, fun j hj => ?_, ?_⟩
      · rw [List.reverse_cons]
        refine chk_snoc i1 (fun j hj => ?_) (fun j hj => ?_)
        · have hj' := i2 j (List.mem_reverse.mp hj)
          refine ⟨hrel j hj', fun x hx => hrel x ?_⟩
          rcases hj' with q | q
          · exact Or.inl (off_sub hw (by omega) q x hx)
          · exact Or.inr (off_sub hw (by omega) q x hx)
        · rw [List.getLast?_reverse] at hj
          obtain ⟨j0, q⟩ := i6 j hj
          rcases q with q | q
          · rw [q]; exact c'
          · rw [q] at j0 ⊢; exact v5 j0
      · rcases List.mem_cons.mp ha with q | q
        · rw [q]; exact Or.inr hrr
        · exact (i2 a q).imp id (inr a)
      · rcases List.mem_cons.mp ha with q | q
        · rw [q]
          refine ⟨fun x hx => hrel x (i4 x hx), fun e => ?_⟩
          rcases i4 _ (nd_self hw (by omega) i3) with z | z
          · exact hp_le hw hl c' z
          · have : gL g r ≠ 0 := fun e => by rw [e, nd_0] at z; cases z
            exact hp_le hw (by omega) (v5 this) z
        · exact i5 a q
      · simp at hj; subst hj; exact ⟨by omega, Or.inr rfl⟩
      · rw [List.length_cons]; omega
theorem nd_pos {g : LG} {n i : Nat} (hi : i ≤ n) {a : Nat} (ha : a ∈ nd g i) : 0 < a ∧ a ≤ n := by have := nd_le ha; omega
/-- below -/
theorem lsr_wf {g : LG} {n : Nat} (hw : wfG g n) (k : Int32) {i : Nat} (hi : i ≤ n) : wfG (cpo k (lsr g k i).reverse g n 0).1 (n + (lsr g k i).length) ∧ agr g (cpo k (lsr g k i).reverse g n 0).1 n ∧ (cpo k (lsr g k i).reverse g n 0).2 ≤ n + (lsr g k i).length := by
  have := cpo_wf k (lsr g k i).reverse g n 0 hw (fun a ha => nd_pos hi (lsr_mem hw k i hi a (List.mem_reverse.mp ha)).1) (lsr_chk hw k i hi) (by omega) (fun a _ x hx => by rw [nd_0] at hx; cases hx) (fun e => absurd rfl e)
  rw [List.length_reverse] at this; exact this
/-- join -/
theorem jnt_wf {g : LG} {n : Nat} (hw : wfG g n) (k : Int32) {l r : Nat} (hl : l ≤ n) (hr : r ≤ n) (kl : ∀ x ∈ nd g l, gK g x < k) (kr : ∀ x ∈ nd g r, ¬ gK g x < k) : wfG (cpo k (jnt g l r).reverse g n (jrs g l r)).1 (n + (jnt g l r).length) ∧ agr g (cpo k (jnt g l r).reverse g n (jrs g l r)).1 n ∧ (cpo k (jnt g l r).reverse g n (jrs g l r)).2 ≤ n + (jnt g l r).length := by
  obtain ⟨i1, i2, i3, i4, i5, i6, -⟩ := jnt_all hw k _ l r (Nat.lt_succ_self _) hl hr kl kr
  have := cpo_wf k (jnt g l r).reverse g n (jrs g l r) hw (fun a ha => (i2 a (List.mem_reverse.mp ha)).elim (nd_pos hl) (nd_pos hr)) i1 i3 (fun a ha => (i5 a (List.mem_reverse.mp ha)).1) (fun e a ha => (i5 a (List.mem_reverse.mp (List.mem_of_mem_head? ha))).2 e)
  rw [List.length_reverse] at this; exact this
theorem fnd_le {g : LG} {n : Nat} (hw : wfG g n) (k : Int32) {i : Nat} (hi : i ≤ n) : fnd g k i ≤ n := by
  by_cases e : fnd g k i = 0
  · omega
  · have := nd_le (fnd_mem hw k i hi e).1; omega
theorem jnt_fnd {g : LG} {n : Nat} (hw : wfG g n) (k : Int32) {i : Nat} (hi : i ≤ n) (e : fnd g k i ≠ 0) : (∀ x ∈ nd g (gL g (fnd g k i)), gK g x < k) ∧ (∀ x ∈ nd g (gR g (fnd g k i)), ¬ gK g x < k) ∧ gL g (fnd g k i) ≤ n ∧ gR g (fnd g k i) ≤ n := by
  have h1 := fnd_mem hw k i hi e
  have h2 := fnd_le hw k hi
  obtain ⟨w1, w2, w3, w4, -⟩ := hw (fnd g k i) (by omega) h2
  rw [h1.2] at w3 w4
  exact ⟨w3, fun x hx => i32_lt_asymm (w4 x hx), by omega, by omega⟩
/-- remove -/
theorem rmv_wf {g : LG} {n : Nat} (hw : wfG g n) (k : Int32) {i : Nat} (hi : i ≤ n) : wfG (cpo k (rmvL g k i).reverse g n (rmvT g k i)).1 (n + (rmvL g k i).length) ∧ agr g (cpo k (rmvL g k i).reverse g n (rmvT g k i)).1 n ∧ (cpo k (rmvL g k i).reverse g n (rmvT g k i)).2 ≤ n + (rmvL g k i).length := by
  by_cases e : fnd g k i = 0
  · have e1 : rmvL g k i = [] := by simp [rmvL, e]
    have e2 : rmvT g k i = i := by simp [rmvT, e]
    rw [e1, e2]; exact ⟨hw, agr.rf g n, hi⟩
  · have e1 : rmvL g k i = way g k i ++ jnt g (gL g (fnd g k i)) (gR g (fnd g k i)) := by simp [rmvL, e]
    have e2 : rmvT g k i = jrs g (gL g (fnd g k i)) (gR g (fnd g k i)) := by simp [rmvT, e]
    obtain ⟨k1, k2, k3, k4⟩ := jnt_fnd hw k hi e
    have hxn := fnd_le hw k hi
    have hx0 : 0 < fnd g k i := by omega
    obtain ⟨c1, c2⟩ := way_chk hw k i hi
    obtain ⟨w1, w2, -, -, w5, w6⟩ := hw _ hx0 hxn
    have sx : nd g (fnd g k i) = nd g (gL g (fnd g k i)) ++ fnd g k i :: nd g (gR g (fnd g k i)) := nd_eq hw hx0 hxn
    generalize fnd g k i = x at *
    obtain ⟨i1, i2, i3, i4, i5, i6, -⟩ := jnt_all hw k _ (gL g x) (gR g x) (Nat.lt_succ_self _) k3 k4 k1 k2
    have hin : ∀ y, y ∈ nd g (gL g x) ∨ y ∈ nd g (gR g x) → y ∈ nd g x := by
      intro y hy; rw [sx]
      rcases hy with q | q
      · exact List.mem_append_left _ q
      · exact List.mem_append_right _ (List.mem_cons_of_mem _ q)
    rw [e1, e2, List.reverse_append]
    have := cpo_wf k ((jnt g (gL g x) (gR g x)).reverse ++ (way g k i).reverse) g n (jrs g (gL g x) (gR g x)) hw (fun a ha => ?_) ?_ i3 (fun a ha y hy => ?_) (fun e a ha => ?_)
    · rw [List.length_append, List.length_reverse, List.length_reverse] at this
      rw [List.length_append, Nat.add_comm (way g k i).length]; exact this
    · rcases List.mem_append.mp ha with q | q
      · exact nd_pos hxn (hin a (i2 a (List.mem_reverse.mp q)))
      · exact nd_pos hi (way_mem hw k i hi a (List.mem_reverse.mp q)).1
    · refine chk_app i1 c1 (fun a ha j hj => ?_) (fun a j ha hj => ?_)
      · have hj' := hin j (i2 j (List.mem_reverse.mp hj))
        have := (c2 a (List.mem_reverse.mp ha)).1
        exact ⟨this j hj', fun y hy => this y (off_sub hw hxn hj' y hy)⟩
      · have hj' := hin j (i2 j (List.mem_reverse.mp (List.mem_of_getLast? hj)))
        exact hp_le hw hxn ((c2 a (List.mem_reverse.mp (List.mem_of_mem_head? ha))).2 (by omega)) hj'
    · rcases List.mem_append.mp ha with q | q
      · exact (i5 a (List.mem_reverse.mp q)).1 y hy
      · exact (c2 a (List.mem_reverse.mp q)).1 y (hin y (i4 y hy))
    · rcases List.mem_append.mp (List.mem_of_mem_head? ha) with q | q
      · exact (i5 a (List.mem_reverse.mp q)).2 e
      · exact hp_le hw hxn ((c2 a (List.mem_reverse.mp q)).2 (by omega)) (hin _ (i4 _ (nd_self hw (by omega) i3)))
/-- put of a key that is there -/
theorem pvl_wf {g : LG} {n : Nat} (hw : wfG g n) (k v : Int32) {i : Nat} (hi : i ≤ n) (e : fnd g k i ≠ 0) :
    wfG (cpo k (way g k i).reverse (gadd g (n + 1) k v (gW g (fnd g k i)) (gL g (fnd g k i)) (gR g (fnd g k i))) (n + 1) (n + 1)).1 (n + 1 + (way g k i).length) ∧ agr g (cpo k (way g k i).reverse (gadd g (n + 1) k v (gW g (fnd g k i)) (gL g (fnd g k i)) (gR g (fnd g k i))) (n + 1) (n + 1)).1 n ∧ (cpo k (way g k i).reverse (gadd g (n + 1) k v (gW g (fnd g k i)) (gL g (fnd g k i)) (gR g (fnd g k i))) (n + 1) (n + 1)).2 ≤ n + 1 + (way g k i).length := by
  have hxk := (fnd_mem hw k i hi e).2
  have hxn := fnd_le hw k hi
  have hx0 : 0 < fnd g k i := by omega
  obtain ⟨c1, c2⟩ := way_chk hw k i hi
  obtain ⟨w1, w2, w3, w4, w5, w6⟩ := hw _ hx0 hxn
  have sx : nd g (fnd g k i) = nd g (gL g (fnd g k i)) ++ fnd g k i :: nd g (gR g (fnd g k i)) := nd_eq hw hx0 hxn
  generalize fnd g k i = x at *
  unfold abG abB at w5 w6
  rw [hxk] at w3 w4 w5 w6
  have hl : gL g x ≤ n := by omega
  have hr : gR g x ≤ n := by omega
  have hw1 := wf_add hw (v := v) hl hr w3 w4 w5 w6
  have ha := agr.add g n k v (gW g x) (gL g x) (gR g x)
  have hnd := nd_add (g := g) (k := k) (v := v) (w := gW g x) hl hr
  have eK : gK (gadd g (n + 1) k v (gW g x) (gL g x) (gR g x)) (n + 1) = k := by rw [gK_add, upn_eq]
  have eW : gW (gadd g (n + 1) k v (gW g x) (gL g x) (gR g x)) (n + 1) = gW g x := by rw [gW_add, upn_eq]
  generalize gadd g (n + 1) k v (gW g x) (gL g x) (gR g x) = g1 at *
  have hwy : ∀ a ∈ way g k i, 0 < a ∧ a ≤ n := fun a h => nd_pos hi (way_mem hw k i hi a h).1
  have q1 : ∀ a ∈ (way g k i).reverse, ∀ y ∈ nd g1 (n + 1), relk g1 k a y := by
    intro a h y hy
    have h := List.mem_reverse.mp h
    have ha0 := hwy a h
    have old : ∀ y ∈ nd g x, relk g1 k a y := fun y hy => (relk_agr ha ha0.1 ha0.2 (nd_pos hxn hy).1 (nd_pos hxn hy).2).mpr ((c2 a h).1 y hy)
    rw [hnd] at hy
    rcases List.mem_append.mp hy with q | q
    · exact old y (by rw [sx]; exact List.mem_append_left _ q)
    · rcases List.mem_cons.mp q with q | q
      · subst q
        have := (c2 a h).1 x (by rw [sx]; exact List.mem_append_right _ List.mem_cons_self)
        unfold relk at this ⊢
        rw [eK, (ha a ha0.1 ha0.2).1]; rw [hxk] at this; exact this
      · exact old y (by rw [sx]; exact List.mem_append_right _ (List.mem_cons_of_mem _ q))
  have q2 : n + 1 ≠ 0 → ∀ a, (way g k i).reverse.head? = some a → abB g1 a (n + 1) = true := by
    intro _ a h
    have h := List.mem_reverse.mp (List.mem_of_mem_head? h)
    have ha0 := hwy a h
    have := (c2 a h).2 (by omega)
    unfold abB at this ⊢
    rw [eK, eW, (ha a ha0.1 ha0.2).1, (ha a ha0.1 ha0.2).2.2.1]; rw [hxk] at this; exact this
  obtain ⟨r1, r2, r3⟩ := cpo_wf k (way g k i).reverse g1 (n + 1) (n + 1) hw1 (fun a h => by have := hwy a (List.mem_reverse.mp h); omega) (chk_agr hw ha (fun a h => hwy a (List.mem_reverse.mp h)) c1) (Nat.le_refl _) q1 q2
  rw [List.length_reverse] at r1 r3
  exact ⟨r1, ha.tr r2 (by omega), r3⟩
theorem chk_hp {g : LG} {k : Int32} : ∀ {as : List Nat} {i : Nat}, chk g k (i :: as) → ∀ a ∈ as, abB g a i = true
  | [], _, _, a, h => by cases h
  | b :: bs, i, hc, a, h => by
    obtain ⟨-, c2, c3⟩ := hc
    rcases List.mem_cons.mp h with q | q
    · rw [q]; exact c2 b rfl
    · exact abv_tr (chk_hp c3 a q) (c2 b rfl)
/-- what holds of a new node's two trees while they grow -/
def plI (g : LG) (n : Nat) (k w : Int32) (is : List Nat) (a b : Nat) : Prop :=
  wfG g n ∧ (∀ i ∈ is, 0 < i ∧ i ≤ n) ∧ chk g k is ∧ (∀ i ∈ is, gK g i ≠ k) ∧ a ≤ n ∧ b ≤ n ∧ (∀ x ∈ nd g a, gK g x < k) ∧ (∀ x ∈ nd g b, k < gK g x) ∧ (a ≠ 0 → abv w k (gW g a) (gK g a) = true) ∧ (b ≠ 0 → abv w k (gW g b) (gK g b) = true) ∧ (∀ i ∈ is, (∀ x, x ∈ nd g a ∨ x ∈ nd g b → relk g k i x) ∧ (a ≠ 0 → abB g i a = true) ∧ (b ≠ 0 → abB g i b = true))
theorem pln_all (k w : Int32) : ∀ (is : List Nat) (g : LG) (n a b : Nat), plI g n k w is a b → ∀ (g1 : LG) (n1 a1 b1 : Nat) (rs : List Nat), pln k w is g n a b = (g1, n1, a1, b1, rs) →
    plI g1 n1 k w rs a1 b1 ∧ agr g g1 n ∧ n1 + rs.length = n + is.length ∧ (∀ i ∈ rs, i ∈ is) ∧ (∀ i, rs.head? = some i → abv (gW g i) (gK g i) w k = true) := by
  intro is
  induction is with
  | nil =>
    intro g n a b hI g1 n1 a1 b1 rs e
    rw [pln] at e
    cases e
    exact ⟨hI, agr.rf g n, rfl, fun _ h => h, fun _ h => by cases h⟩
  | cons i is ih =>
    intro g n a b hI g1 n1 a1 b1 rs e
    rw [pln] at e
    by_cases c : abv (gW g i) (gK g i) w k = true
    · rw [if_pos c] at e
      cases e
      exact ⟨hI, agr.rf g n, rfl, fun _ h => h, fun j h => by simp at h; subst h; exact c⟩
    · rw [if_neg c] at e
      obtain ⟨hw, hi, hc, hk, ha, hb, ka, kb, pa, pb, hq⟩ := hI
      have hpi := chk_hp hc
      obtain ⟨c1, c2, c3⟩ := hc
      obtain ⟨i0, hin⟩ := hi i List.mem_cons_self
      obtain ⟨w1, w2, w3, w4, w5, w6⟩ := hw i i0 hin
      obtain ⟨q1, q2, q3⟩ := hq i List.mem_cons_self
      have htot := abv_tot c (hk i List.mem_cons_self)
      have fin : ∀ (l r : Nat), l ≤ n → r ≤ n → wfG (gadd g (n + 1) (gK g i) (gV g i) (gW g i) l r) (n + 1) → ∀ (a' b' : Nat), (a' = n + 1 ∧ b' = b ∧ gK g i < k ∧ l = gL g i ∧ r = a) ∨ (a' = a ∧ b' = n + 1 ∧ ¬ gK g i < k ∧ l = b ∧ r = gR g i) → plI (gadd g (n + 1) (gK g i) (gV g i) (gW g i) l r) (n + 1) k w is a' b' := by
        intro l r hl hr hw1 a' b' hab
        have hag := agr.add g n (gK g i) (gV g i) (gW g i) l r
        have hnd := nd_add (g := g) (k := gK g i) (v := gV g i) (w := gW g i) hl hr
        have eK : gK (gadd g (n + 1) (gK g i) (gV g i) (gW g i) l r) (n + 1) = gK g i := by rw [gK_add, upn_eq]
        have eW : gW (gadd g (n + 1) (gK g i) (gV g i) (gW g i) l r) (n + 1) = gW g i := by rw [gW_add, upn_eq]
        generalize gadd g (n + 1) (gK g i) (gV g i) (gW g i) l r = g2 at *
        have hi' : ∀ j ∈ is, 0 < j ∧ j ≤ n := fun j h => hi j (List.mem_cons_of_mem _ h)
        have oldK : ∀ x, 0 < x → x ≤ n → gK g2 x = gK g x := fun x x0 hx => (hag x x0 hx).1
        have relN : ∀ j ∈ is, relk g2 k j (n + 1) := by
          intro j h
          have := (c1 j h).1
          have hj := hi' j h
          unfold relk at this ⊢
          rw [eK, oldK j hj.1 hj.2]; exact this
        have relO : ∀ j ∈ is, ∀ x, 0 < x → x ≤ n → relk g k j x → relk g2 k j x := fun j h x x0 hx hr => (relk_agr hag (hi' j h).1 (hi' j h).2 x0 hx).mpr hr
        have abN : ∀ j ∈ is, abB g2 j (n + 1) = true := by
          intro j h
          have := hpi j h
          have hj := hi' j h
          unfold abB at this ⊢
          rw [eK, eW, oldK j hj.1 hj.2, (hag j hj.1 hj.2).2.2.1]; exact this
        have abO : ∀ j ∈ is, ∀ x, x ≤ n → x ≠ 0 → abB g j x = true → abB g2 j x = true := fun j h x hx x0 hb => by rw [abB_agr hag (hi' j h).1 (hi' j h).2 (by omega) hx]; exact hb
        have hof : ∀ j ∈ is, ∀ x ∈ nd g (off g k i), relk g k j x := fun j h => (c1 j h).2
        rcases hab with ⟨rfl, rfl, ck, rfl, rfl⟩ | ⟨rfl, rfl, ck, rfl, rfl⟩
        · have eo : off g k i = gL g i := by unfold off; rw [if_pos ck]
          rw [eo] at hof
          refine ⟨hw1, fun j h => by have := hi' j h; omega, chk_agr hw hag hi' c3, fun j h => by rw [oldK j (hi' j h).1 (hi' j h).2]; exact hk j (List.mem_cons_of_mem _ h), Nat.le_refl _, by omega, fun x hx => ?_, fun x hx => ?_, fun _ => ?_, fun e => ?_, fun j h => ⟨fun x hx => ?_, fun _ => abN j h, fun e => ?_⟩⟩
          · rw [hnd] at hx
            rcases List.mem_append.mp hx with q | q
            · have := nd_le q; rw [oldK x (by omega) (by omega)]; exact i32_lt_trans (w3 x q) ck
            · rcases List.mem_cons.mp q with q | q
              · rw [q, eK]; exact ck
              · have := nd_le q; rw [oldK x (by omega) (by omega)]; exact ka x q
          · rw [hag.nd hb] at hx; have := nd_le hx; rw [oldK x (by omega) (by omega)]; exact kb x hx
          · rw [eK, eW]; exact htot
          · rw [oldK b' (by omega) hb, (hag b' (by omega) hb).2.2.1]; exact pb e
          · rw [hnd, hag.nd hb] at hx
            rcases hx with hx | hx
            · rcases List.mem_append.mp hx with q | q
              · have := nd_le q; exact relO j h x (by omega) (by omega) (hof j h x q)
              · rcases List.mem_cons.mp q with q | q
                · rw [q]; exact relN j h
                · have := nd_le q; exact relO j h x (by omega) (by omega) ((hq j (List.mem_cons_of_mem _ h)).1 x (Or.inl q))
            · have := nd_le hx; exact relO j h x (by omega) (by omega) ((hq j (List.mem_cons_of_mem _ h)).1 x (Or.inr hx))
          · exact abO j h b' hb e ((hq j (List.mem_cons_of_mem _ h)).2.2 e)
        · have eo : off g k i = gR g i := by unfold off; rw [if_neg ck]
          rw [eo] at hof
          have ck' : k < gK g i := i32_tri ck (fun e => hk i List.mem_cons_self e)
          refine ⟨hw1, fun j h => by have := hi' j h; omega, chk_agr hw hag hi' c3, fun j h => by rw [oldK j (hi' j h).1 (hi' j h).2]; exact hk j (List.mem_cons_of_mem _ h), by omega, Nat.le_refl _, fun x hx => ?_, fun x hx => ?_, fun e => ?_, fun _ => ?_, fun j h => ⟨fun x hx => ?_, fun e => ?_, fun _ => abN j h⟩⟩
          · rw [hag.nd ha] at hx; have := nd_le hx; rw [oldK x (by omega) (by omega)]; exact ka x hx
          · rw [hnd] at hx
            rcases List.mem_append.mp hx with q | q
            · have := nd_le q; rw [oldK x (by omega) (by omega)]; exact kb x q
            · rcases List.mem_cons.mp q with q | q
              · rw [q, eK]; exact ck'
              · have := nd_le q; rw [oldK x (by omega) (by omega)]; exact i32_lt_trans ck' (w4 x q)
          · rw [oldK a' (by omega) ha, (hag a' (by omega) ha).2.2.1]; exact pa e
          · rw [eK, eW]; exact htot
          · rw [hnd, hag.nd ha] at hx
            rcases hx with hx | hx
            · have := nd_le hx; exact relO j h x (by omega) (by omega) ((hq j (List.mem_cons_of_mem _ h)).1 x (Or.inl hx))
            · rcases List.mem_append.mp hx with q | q
              · have := nd_le q; exact relO j h x (by omega) (by omega) ((hq j (List.mem_cons_of_mem _ h)).1 x (Or.inr q))
              · rcases List.mem_cons.mp q with q | q
                · rw [q]; exact relN j h
                · have := nd_le q; exact relO j h x (by omega) (by omega) (hof j h x q)
          · exact abO j h a' ha e ((hq j (List.mem_cons_of_mem _ h)).2.1 e)
      have out : ∀ (l r a' b' : Nat), l ≤ n → r ≤ n → plI (gadd g (n + 1) (gK g i) (gV g i) (gW g i) l r) (n + 1) k w is a' b' → pln k w is (gadd g (n + 1) (gK g i) (gV g i) (gW g i) l r) (n + 1) a' b' = (g1, n1, a1, b1, rs) →
          plI g1 n1 k w rs a1 b1 ∧ agr g g1 n ∧ n1 + rs.length = n + (i :: is).length ∧ (∀ j ∈ rs, j ∈ i :: is) ∧ (∀ j, rs.head? = some j → abv (gW g j) (gK g j) w k = true) := by
        intro l r a' b' hl hr hP e
        have hag := agr.add g n (gK g i) (gV g i) (gW g i) l r
        obtain ⟨r1, r2, r3, r4, r5⟩ := ih _ _ _ _ hP g1 n1 a1 b1 rs e
        refine ⟨r1, hag.tr r2 (by omega), by rw [List.length_cons]; omega, fun j h => List.mem_cons_of_mem _ (r4 j h), fun j h => ?_⟩
        have := r5 j h
        have hj := hi j (List.mem_cons_of_mem _ (r4 j (List.mem_of_mem_head? h)))
        rw [(hag j hj.1 hj.2).1, (hag j hj.1 hj.2).2.2.1] at this; exact this
      by_cases ck : gK g i < k
      · rw [if_pos ck] at e
        have hw1 : wfG (gadd g (n + 1) (gK g i) (gV g i) (gW g i) (gL g i) a) (n + 1) := wf_add hw (by omega) ha w3 (fun x hx => by have := q1 x (Or.inl hx); unfold relk at this; rw [if_pos ck] at this; exact this) w5 q2
        exact out (gL g i) a (n + 1) b (by omega) ha (fin (gL g i) a (by omega) ha hw1 (n + 1) b (Or.inl ⟨rfl, rfl, ck, rfl, rfl⟩)) e
      · rw [if_neg ck] at e
        have hw1 : wfG (gadd g (n + 1) (gK g i) (gV g i) (gW g i) b (gR g i)) (n + 1) := wf_add hw hb (by omega) (fun x hx => by have := q1 x (Or.inr hx); unfold relk at this; rw [if_neg ck] at this; exact this) w4 q3 w6
        exact out b (gR g i) a (n + 1) hb (by omega) (fin b (gR g i) hb (by omega) hw1 a (n + 1) (Or.inr ⟨rfl, rfl, ck, rfl, rfl⟩)) e
/-- put of a new key -/
theorem pnw_wf {g : LG} {n : Nat} (hw : wfG g n) (k v w : Int32) {i : Nat} (hi : i ≤ n) {g1 : LG} {n1 a1 b1 : Nat} {rs : List Nat} (e : pln k w (way g k i).reverse g n 0 0 = (g1, n1, a1, b1, rs)) :
    wfG (cpo k rs (gadd g1 (n1 + 1) k v w a1 b1) (n1 + 1) (n1 + 1)).1 (n + (way g k i).length + 1) ∧ agr g (cpo k rs (gadd g1 (n1 + 1) k v w a1 b1) (n1 + 1) (n1 + 1)).1 n ∧ (cpo k rs (gadd g1 (n1 + 1) k v w a1 b1) (n1 + 1) (n1 + 1)).2 ≤ n + (way g k i).length + 1 := by
  obtain ⟨c1, -⟩ := way_chk hw k i hi
  have hwy : ∀ a ∈ (way g k i).reverse, a ∈ nd g i ∧ gK g a ≠ k := fun a h => way_mem hw k i hi a (List.mem_reverse.mp h)
  obtain ⟨⟨pw, pi, pc, pk, pa, pb, ka, kb, ha, hb, hq⟩, hag, hlen, hsub, hst⟩ := pln_all k w _ g n 0 0 ⟨hw, fun a h => nd_pos hi (hwy a h).1, c1, fun a h => (hwy a h).2, by omega, by omega, fun x hx => (by rw [nd_0] at hx; cases hx), fun x hx => (by rw [nd_0] at hx; cases hx), fun h => absurd rfl h, fun h => absurd rfl h, fun _ _ => ⟨fun x hx => (by rw [nd_0] at hx; rcases hx with q | q <;> cases q), fun h => absurd rfl h, fun h => absurd rfl h⟩⟩ g1 n1 a1 b1 rs e
  rw [List.length_reverse] at hlen
  have hst' : ∀ j, rs.head? = some j → abv (gW g1 j) (gK g1 j) w k = true := by
    intro j h
    have hj := nd_pos hi (hwy j (hsub j (List.mem_of_mem_head? h))).1
    rw [(hag j hj.1 hj.2).1, (hag j hj.1 hj.2).2.2.1]; exact hst j h
  have hw1 := wf_add pw (v := v) pa pb ka kb ha hb
  have hag1 := agr.add g1 n1 k v w a1 b1
  have hnd := nd_add (g := g1) (k := k) (v := v) (w := w) pa pb
  have eK : gK (gadd g1 (n1 + 1) k v w a1 b1) (n1 + 1) = k := by rw [gK_add, upn_eq]
  have eW : gW (gadd g1 (n1 + 1) k v w a1 b1) (n1 + 1) = w := by rw [gW_add, upn_eq]
  generalize gadd g1 (n1 + 1) k v w a1 b1 = g2 at *
  have q1 : ∀ a ∈ rs, ∀ y ∈ nd g2 (n1 + 1), relk g2 k a y := by
    intro a h y hy
    have ha0 := pi a h
    rw [hnd] at hy
    have old : ∀ y, y ∈ nd g1 a1 ∨ y ∈ nd g1 b1 → relk g2 k a y := by
      intro y hy
      have hy0 : 0 < y ∧ y ≤ n1 := by rcases hy with q | q; exact nd_pos pa q; exact nd_pos pb q
      exact (relk_agr hag1 ha0.1 ha0.2 hy0.1 hy0.2).mpr ((hq a h).1 y hy)
    rcases List.mem_append.mp hy with q | q
    · exact old y (Or.inl q)
    · rcases List.mem_cons.mp q with q | q
      · subst q
        unfold relk
        rw [eK, (hag1 a ha0.1 ha0.2).1]
        split
        · assumption
        · rename_i c; exact i32_tri c (pk a h)
      · exact old y (Or.inr q)
  have q2 : n1 + 1 ≠ 0 → ∀ a, rs.head? = some a → abB g2 a (n1 + 1) = true := by
    intro _ a h
    have ha0 := pi a (List.mem_of_mem_head? h)
    unfold abB
    rw [eK, eW, (hag1 a ha0.1 ha0.2).1, (hag1 a ha0.1 ha0.2).2.2.1]; exact hst' a h
  obtain ⟨r1, r2, r3⟩ := cpo_wf k rs g2 (n1 + 1) (n1 + 1) hw1 (fun a h => by have := pi a h; omega) (chk_agr pw hag1 pi pc) (Nat.le_refl _) q1 q2
  rw [show n + (way g k i).length + 1 = n1 + 1 + rs.length by omega]
  have hn1 : n ≤ n1 := by
    have : rs.length ≤ (way g k i).length := by
      have h1 : ∀ (is : List Nat) (g : LG) (n a b : Nat), (pln k w is g n a b).2.2.2.2.length ≤ is.length := by
        intro is
        induction is with
        | nil => intro g n a b; simp [pln]
        | cons i is ih =>
          intro g n a b
          rw [pln]
          split
          · exact Nat.le_refl _
          · split
            · have := ih (gadd g (n + 1) (gK g i) (gV g i) (gW g i) (gL g i) a) (n + 1) (n + 1) b; rw [List.length_cons]; omega
            · have := ih (gadd g (n + 1) (gK g i) (gV g i) (gW g i) b (gR g i)) (n + 1) a (n + 1); rw [List.length_cons]; omega
      have := h1 (way g k i).reverse g n 0 0
      rw [e, List.length_reverse] at this; exact this
    omega
  exact ⟨r1, (hag.tr hag1 hn1).tr r2 (by omega), r3⟩
