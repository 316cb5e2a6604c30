/-! the log stays in order when nodes are copied over -/
theorem abv_irr {w k : Int32} : abv w k w k = false := by simp [abv, i32_irr]
theorem abv_tr {w1 k1 w2 k2 w3 k3 : Int32} (h : abv w1 k1 w2 k2 = true) (h' : abv w2 k2 w3 k3 = true) : abv w1 k1 w3 k3 = true := by
  simp [abv] at *
  rcases h with h | ⟨h, q⟩ <;> rcases h' with h' | ⟨h', q'⟩
  · exact Or.inl (i32_lt_trans h' h)
  · subst h'; exact Or.inl h
  · subst h; exact Or.inl h'
  · subst h; subst h'; exact Or.inr ⟨rfl, i32_lt_trans q q'⟩
theorem abv_tot {w1 k1 w2 k2 : Int32} (h : ¬ abv w1 k1 w2 k2 = true) (hk : k1 ≠ k2) : abv w2 k2 w1 k1 = true := by
  by_cases e : w1 = w2
  · subst e
    have h2 : ¬ k1 < k2 := fun q => h (by simp [abv, q])
    have := i32_tri h2 hk
    simp [abv, this]
  · have h2 : ¬ w2 < w1 := fun q => h (by simp [abv, q])
    have := i32_tri h2 (fun q => e q.symm)
    simp [abv, this]
def relk (g : LG) (k : Int32) (a x : Nat) : Prop := if gK g a < k then gK g a < gK g x else gK g x < gK g a
def off (g : LG) (k : Int32) (i : Nat) : Nat := if gK g i < k then gL g i else gR g i
def chk (g : LG) (k : Int32) : List Nat → Prop
  | [] => True
  | i :: as => (∀ a ∈ as, relk g k a i ∧ ∀ x ∈ nd g (off g k i), relk g k a x) ∧ (∀ a, as.head? = some a → abB g a i = true) ∧ chk g k as
theorem relk_agr {g g' : LG} {n : Nat} (h : agr g g' n) {k : Int32} {a x : Nat} (ha0 : 0 < a) (ha : a ≤ n) (hx0 : 0 < x) (hx : x ≤ n) : relk g' k a x ↔ relk g k a x := by
  unfold relk; rw [(h a ha0 ha).1, (h x hx0 hx).1]
theorem off_agr {g g' : LG} {n : Nat} (h : agr g g' n) {k : Int32} {a : Nat} (ha0 : 0 < a) (ha : a ≤ n) : off g' k a = off g k a := by
  obtain ⟨h1, -, -, h4, h5⟩ := h a ha0 ha
  unfold off; rw [h1, h4, h5]
theorem off_le {g : LG} {n : Nat} (hw : wfG g n) {k : Int32} {a : Nat} (ha0 : 0 < a) (ha : a ≤ n) : off g k a ≤ n := by
  obtain ⟨w1, w2, -⟩ := hw a ha0 ha
  unfold off; split <;> omega
theorem abB_agr {g g' : LG} {n : Nat} (h : agr g g' n) {a x : Nat} (ha0 : 0 < a) (ha : a ≤ n) (hx0 : 0 < x) (hx : x ≤ n) : abB g' a x = abB g a x := by
  obtain ⟨h1, -, h3, -⟩ := h a ha0 ha
  obtain ⟨k1, -, k3, -⟩ := h x hx0 hx
  unfold abB; rw [h1, h3, k1, k3]
theorem chk_agr {g g' : LG} {n : Nat} (hw : wfG g n) (h : agr g g' n) {k : Int32} : ∀ {is : List Nat}, (∀ a ∈ is, 0 < a ∧ a ≤ n) → chk g k is → chk g' k is
  | [], _, _ => trivial
  | i :: as, hi, hc => by
    obtain ⟨c1, c2, c3⟩ := hc
    have hi0 := hi i List.mem_cons_self
    refine ⟨fun a ha => ?_, fun a ha => ?_, chk_agr hw h (fun a ha => hi a (List.mem_cons_of_mem _ ha)) c3⟩
    · have ha0 := hi a (List.mem_cons_of_mem _ ha)
      refine ⟨(relk_agr h ha0.1 ha0.2 hi0.1 hi0.2).mpr (c1 a ha).1, fun x hx => ?_⟩
      rw [off_agr h hi0.1 hi0.2, h.nd (off_le hw hi0.1 hi0.2)] at hx
      have hx0 := nd_le hx
      exact (relk_agr h ha0.1 ha0.2 hx0.1 (by have := off_le hw (k := k) hi0.1 hi0.2; omega)).mpr ((c1 a ha).2 x hx)
    · have ha0 := hi a (List.mem_cons_of_mem _ (List.mem_of_mem_head? ha))
      rw [abB_agr h ha0.1 ha0.2 hi0.1 hi0.2]; exact c2 a ha
/-- a node added over two trees of the log -/
theorem wf_add {g : LG} {n : Nat} (hw : wfG g n) {k v w : Int32} {l r : Nat} (hl : l ≤ n) (hr : r ≤ n) (h1 : ∀ x ∈ nd g l, gK g x < k) (h2 : ∀ x ∈ nd g r, k < gK g x) (h3 : l ≠ 0 → abv w k (gW g l) (gK g l) = true) (h4 : r ≠ 0 → abv w k (gW g r) (gK g r) = true) : wfG (gadd g (n + 1) k v w l r) (n + 1) := by
  have ha := agr.add g n k v w l r
  intro i i0 hi
  by_cases e : i = n + 1
  · subst e
    unfold wfN abG abB
    rw [gL_add, gR_add, gK_add, gW_add, upn_eq, upn_eq, upn_eq, upn_eq, ha.nd hl, ha.nd hr]
    refine ⟨by omega, by omega, fun j hj => ?_, fun j hj => ?_, fun e => ?_, fun e => ?_⟩
    · have := nd_le hj; rw [upn_ne _ _ (by omega)]; exact h1 j hj
    · have := nd_le hj; rw [upn_ne _ _ (by omega)]; exact h2 j hj
    · rw [upn_ne _ _ (by omega), upn_ne _ _ (by omega)]; exact h3 e
    · rw [upn_ne _ _ (by omega), upn_ne _ _ (by omega)]; exact h4 e
  · exact hw.agr ha i i0 (by omega)
theorem nd_add {g : LG} {n : Nat} {k v w : Int32} {l r : Nat} (hl : l ≤ n) (hr : r ≤ n) : nd (gadd g (n + 1) k v w l r) (n + 1) = nd g l ++ (n + 1) :: nd g r := by
  have ha := agr.add g n k v w l r
  have a1 : gL (gadd g (n + 1) k v w l r) (n + 1) = l := by rw [gL_add, upn_eq]
  have a2 : gR (gadd g (n + 1) k v w l r) (n + 1) = r := by rw [gR_add, upn_eq]
  rw [nd.eq_1, dif_pos ⟨by omega, by omega, by omega⟩, a1, a2, ha.nd hl, ha.nd hr]
theorem cpo_wf (k : Int32) : ∀ (is : List Nat) (g : LG) (n t : Nat), wfG g n → (∀ a ∈ is, 0 < a ∧ a ≤ n) → chk g k is → t ≤ n → (∀ a ∈ is, ∀ x ∈ nd g t, relk g k a x) → (t ≠ 0 → ∀ a, is.head? = some a → abB g a t = true) →
    wfG (cpo k is g n t).1 (n + is.length) ∧ agr g (cpo k is g n t).1 n ∧ (cpo k is g n t).2 ≤ n + is.length := by
  intro is
  induction is with
  | nil => intro g n t hw _ _ ht _ _; exact ⟨hw, agr.rf g n, ht⟩
  | cons i is ih =>
    intro g n t hw hi hc ht hk hh
    obtain ⟨c1, c2, c3⟩ := hc
    obtain ⟨i0, hin⟩ := hi i List.mem_cons_self
    obtain ⟨w1, w2, w3, w4, w5, w6⟩ := hw i i0 hin
    have hki := hk i List.mem_cons_self
    rw [cpo]
    have hl : (if gK g i < k then gL g i else t) ≤ n := by split <;> omega
    have hr : (if gK g i < k then t else gR g i) ≤ n := by split <;> omega
    have hw1 : wfG (gadd g (n + 1) (gK g i) (gV g i) (gW g i) (if gK g i < k then gL g i else t) (if gK g i < k then t else gR g i)) (n + 1) := by
      refine wf_add hw hl hr (fun x hx => ?_) (fun x hx => ?_) (fun e => ?_) (fun e => ?_)
      · by_cases c : gK g i < k
        · rw [if_pos c] at hx; exact w3 x hx
        · rw [if_neg c] at hx; have := hki x hx; unfold relk at this; rw [if_neg c] at this; exact this
      · by_cases c : gK g i < k
        · rw [if_pos c] at hx; have := hki x hx; unfold relk at this; rw [if_pos c] at this; exact this
        · rw [if_neg c] at hx; exact w4 x hx
      · by_cases c : gK g i < k
        · rw [if_pos c] at e ⊢; exact w5 e
        · rw [if_neg c] at e ⊢; exact hh e i rfl
      · by_cases c : gK g i < k
        · rw [if_pos c] at e ⊢; exact hh e i rfl
        · rw [if_neg c] at e ⊢; exact w6 e
    have ha := agr.add g n (gK g i) (gV g i) (gW g i) (if gK g i < k then gL g i else t) (if gK g i < k then t else gR g i)
    have hnd := nd_add (g := g) (k := gK g i) (v := gV g i) (w := gW g i) hl hr
    have eK : gK (gadd g (n + 1) (gK g i) (gV g i) (gW g i) (if gK g i < k then gL g i else t) (if gK g i < k then t else gR g i)) (n + 1) = gK g i := by rw [gK_add, upn_eq]
    have eW : gW (gadd g (n + 1) (gK g i) (gV g i) (gW g i) (if gK g i < k then gL g i else t) (if gK g i < k then t else gR g i)) (n + 1) = gW g i := by rw [gW_add, upn_eq]
    have hof : ∀ x, x ∈ nd g (if gK g i < k then gL g i else t) ∨ x ∈ nd g (if gK g i < k then t else gR g i) → x ∈ nd g (off g k i) ∨ x ∈ nd g t := by
      intro x hx
      unfold off
      by_cases c : gK g i < k
      · simp only [if_pos c] at hx ⊢; exact hx
      · simp only [if_neg c] at hx ⊢; exact hx.symm
    generalize gadd g (n + 1) (gK g i) (gV g i) (gW g i) (if gK g i < k then gL g i else t) (if gK g i < k then t else gR g i) = g1 at hw1 ha hnd eK eW ⊢
    have hi' : ∀ a ∈ is, 0 < a ∧ a ≤ n + 1 := fun a h => by have := hi a (List.mem_cons_of_mem _ h); omega
    have q1 : ∀ a ∈ is, ∀ x ∈ nd g1 (n + 1), relk g1 k a x := by
      intro a h x hx
      have ha0 := hi a (List.mem_cons_of_mem _ h)
      rw [hnd] at hx
      have old : ∀ x, x ∈ nd g (off g k i) ∨ x ∈ nd g t → relk g1 k a x := by
        intro x hx
        have hx0 : 0 < x ∧ x ≤ n := by
          rcases hx with q | q
          · have := nd_le q; have := off_le hw (k := k) i0 hin; omega
          · have := nd_le q; omega
        rw [relk_agr ha ha0.1 ha0.2 hx0.1 hx0.2]
        rcases hx with q | q
        · exact (c1 a h).2 x q
        · exact hk a (List.mem_cons_of_mem _ h) x q
      rcases List.mem_append.mp hx with q | q
      · exact old x (hof x (Or.inl q))
      · rcases List.mem_cons.mp q with q | q
        · subst q
          have := (c1 a h).1
          unfold relk at this ⊢
          rw [eK, (ha a ha0.1 ha0.2).1]; exact this
        · exact old x (hof x (Or.inr q))
    have q2 : n + 1 ≠ 0 → ∀ a, is.head? = some a → abB g1 a (n + 1) = true := by
      intro _ a h
      have ha0 := hi a (List.mem_cons_of_mem _ (List.mem_of_mem_head? h))
      have := c2 a h
      unfold abB at this ⊢
      rw [eK, eW, (ha a ha0.1 ha0.2).1, (ha a ha0.1 ha0.2).2.2.1]; exact this
    obtain ⟨r1, r2, r3⟩ := ih g1 (n + 1) (n + 1) hw1 hi' (chk_agr hw ha (fun a h => hi a (List.mem_cons_of_mem _ h)) c3) (Nat.le_refl _) q1 q2
    rw [List.length_cons, show n + (is.length + 1) = n + 1 + is.length by omega]
    exact ⟨r1, ha.tr r2 (by omega), r3⟩
theorem chk_snoc {g : LG} {k : Int32} {i : Nat} : ∀ {l : List Nat}, chk g k l → (∀ j ∈ l, relk g k i j ∧ ∀ x ∈ nd g (off g k j), relk g k i x) → (∀ j, l.getLast? = some j → abB g i j = true) → chk g k (l ++ [i])
  | [], _, _, _ => by
    show chk g k [i]
    exact ⟨fun a h => by simp at h, fun a h => by simp at h, trivial⟩
  | j :: l, hc, hr, hh => by
    obtain ⟨c1, c2, c3⟩ := hc
    refine ⟨fun a ha => ?_, fun a ha => ?_, ?_⟩
    · rcases List.mem_append.mp ha with q | q
      · exact c1 a q
      · simp at q; subst q; exact hr j List.mem_cons_self
    · cases l with
      | nil => simp at ha; subst ha; exact hh j rfl
      | cons b l => exact c2 a ha
    · refine chk_snoc c3 (fun x hx => hr x (List.mem_cons_of_mem _ hx)) (fun x hx => ?_)
      cases l with
      | nil => cases hx
      | cons b l => exact hh x (by rw [List.getLast?_cons_cons]; exact hx)
theorem chk_app {g : LG} {k : Int32} : ∀ {l l' : List Nat}, chk g k l → chk g k l' → (∀ a ∈ l', ∀ j ∈ l, relk g k a j ∧ ∀ x ∈ nd g (off g k j), relk g k a x) → (∀ a j, l'.head? = some a → l.getLast? = some j → abB g a j = true) → chk g k (l ++ l')
  | [], _, _, h, _, _ => h
  | j :: l, l', hc, hc', hr, hh => by
    obtain ⟨c1, c2, c3⟩ := hc
    refine ⟨fun a ha => ?_, fun a ha => ?_, ?_⟩
    · rcases List.mem_append.mp ha with q | q
      · exact c1 a q
      · exact hr a q j List.mem_cons_self
    · cases l with
      | nil => exact hh a j ha rfl
      | cons b l => exact c2 a ha
    · refine chk_app c3 hc' (fun a ha x hx => hr a ha x (List.mem_cons_of_mem _ hx)) (fun a x ha hx => ?_)
      cases l with
      | nil => cases hx
      | cons b l => exact hh a x ha (by rw [List.getLast?_cons_cons]; exact hx)
/-- a node goes above all in its trees -/
theorem hp_all {g : LG} {n : Nat} (hw : wfG g n) : ∀ {i : Nat}, i ≤ n → ∀ x ∈ nd g i, x ≠ i → abB g i x = true := by
  intro i
  induction i using Nat.strongRecOn with
  | _ i ih =>
    intro hi x hx hne
    rcases Nat.eq_zero_or_pos i with h0 | h0
    · subst h0; rw [nd_0] at hx; cases hx
    · obtain ⟨w1, w2, -, -, w5, w6⟩ := hw i h0 hi
      rw [nd_eq hw h0 hi] at hx
      have kid : ∀ c, c < i → (c ≠ 0 → abG g i c) → x ∈ nd g c → abB g i x = true := by
        intro c hc hab hxc
        have hc0 : c ≠ 0 := fun e => by rw [e, nd_0] at hxc; cases hxc
        by_cases e : x = c
        · rw [e]; exact hab hc0
        · exact abv_tr (hab hc0) (ih c hc (by omega) x hxc e)
      rcases List.mem_append.mp hx with q | q
      · exact kid _ w1 w5 q
      · rcases List.mem_cons.mp q with q | q
        · exact absurd q hne
        · exact kid _ w2 w6 q
theorem hp_le {g : LG} {n : Nat} (hw : wfG g n) {a i : Nat} (hi : i ≤ n) (hai : abB g a i = true) {x : Nat} (hx : x ∈ nd g i) : abB g a x = true := by
  by_cases e : x = i
  · rw [e]; exact hai
  · exact abv_tr hai (hp_all hw hi x hx e)
theorem off_sub {g : LG} {n : Nat} (hw : wfG g n) {k : Int32} {i j : Nat} (hi : i ≤ n) (hj : j ∈ nd g i) : ∀ x ∈ nd g (off g k j), x ∈ nd g i := by
  intro x hx
  have hj0 := nd_le hj
  have hn : off g k j ≠ 0 := fun e => by rw [e, nd_0] at hx; cases hx
  refine nd_sub hw hi ?_ x hx
  unfold off at hn ⊢
  split
  · rename_i c; rw [if_pos c] at hn; exact nd_left hw hi hj hn
  · rename_i c; rw [if_neg c] at hn; exact nd_right hw hi hj hn
/-- the side on which the way goes on -/
theorem relk_kid {g : LG} {n : Nat} (hw : wfG g n) {k : Int32} {i : Nat} (i0 : 0 < i) (hi : i ≤ n) : ∀ x ∈ nd g (if gK g i < k then gR g i else gL g i), relk g k i x := by
  obtain ⟨-, -, w3, w4, -⟩ := hw i i0 hi
  intro x hx
  unfold relk
  by_cases c : gK g i < k
  · rw [if_pos c] at hx ⊢; exact w4 x hx
  · rw [if_neg c] at hx ⊢; exact w3 x hx
theorem way_mem {g : LG} {n : Nat} (hw : wfG g n) (k : Int32) : ∀ (i : Nat), i ≤ n → ∀ a ∈ way g k i, a ∈ nd g i ∧ gK g a ≠ k := by
  intro i
  induction i using Nat.strongRecOn with
  | _ i ih =>
    intro hi a ha
    rcases Nat.eq_zero_or_pos i with h0 | h0
    · subst h0; rw [way_0] at ha; cases ha
    · obtain ⟨w1, w2, -⟩ := hw i h0 hi
      rw [way_eq hw h0 hi] at ha
      rw [nd_eq hw h0 hi]
      by_cases c : gK g i = k
      · rw [if_pos c] at ha; cases ha
      · rw [if_neg c] at ha
        rcases List.mem_cons.mp ha with q | q
        · rw [q]; exact ⟨List.mem_append_right _ List.mem_cons_self, c⟩
        · by_cases c2 : gK g i < k
          · rw [if_pos c2] at q
            have := ih _ w2 (by omega) a q
            exact ⟨List.mem_append_right _ (List.mem_cons_of_mem _ this.1), this.2⟩
          · rw [if_neg c2] at q
            have := ih _ w1 (by omega) a q
            exact ⟨List.mem_append_left _ this.1, this.2⟩
theorem way_head {g : LG} {n : Nat} (hw : wfG g n) {k : Int32} {i : Nat} (hi : i ≤ n) {j : Nat} (h : (way g k i).head? = some j) : j = i := by
  rcases Nat.eq_zero_or_pos i with h0 | h0
  · subst h0; rw [way_0] at h; cases h
  · rw [way_eq hw h0 hi] at h
    by_cases c : gK g i = k
    · rw [if_pos c] at h; cases h
    · rw [if_neg c] at h; simp at h; exact h.symm
theorem way_chk {g : LG} {n : Nat} (hw : wfG g n) (k : Int32) : ∀ (i : Nat), i ≤ n → chk g k (way g k i).reverse ∧ ∀ a ∈ way g k i, (∀ x ∈ nd g (fnd g k i), relk g k a x) ∧ (fnd g k i ≠ 0 → abB g a (fnd g k i) = true) := by
  intro i
  induction i using Nat.strongRecOn with
  | _ i ih =>
    intro hi
    rcases Nat.eq_zero_or_pos i with h0 | h0
    · subst h0; rw [way_0]; exact ⟨trivial, fun a h => by cases h⟩
    · obtain ⟨w1, w2, -, -, w5, w6⟩ := hw i h0 hi
      rw [way_eq hw h0 hi, fnd_eq hw h0 hi]
      by_cases c : gK g i = k
      · rw [if_pos c]; exact ⟨trivial, fun a h => by cases h⟩
      · rw [if_neg c, if_neg c]
        have ew : (if gK g i < k then way g k (gR g i) else way g k (gL g i)) = way g k (if gK g i < k then gR g i else gL g i) := by split <;> rfl
        have ef : (if gK g i < k then fnd g k (gR g i) else fnd g k (gL g i)) = fnd g k (if gK g i < k then gR g i else gL g i) := by split <;> rfl
        have hrel := relk_kid hw (k := k) h0 hi
        have hlt : (if gK g i < k then gR g i else gL g i) < i := by split <;> omega
        have hab : (if gK g i < k then gR g i else gL g i) ≠ 0 → abB g i (if gK g i < k then gR g i else gL g i) = true := by
          intro e; split
          · rename_i c2; rw [if_pos c2] at e; exact w6 e
          · rename_i c2; rw [if_neg c2] at e; exact w5 e
        rw [ew, ef]
        generalize (if gK g i < k then gR g i else gL g i) = ch at hrel hlt hab ⊢
        obtain ⟨r1, r2⟩ := ih ch hlt (by omega)
        refine ⟨?_, fun a ha => ?_⟩
        · rw [List.reverse_cons]
          refine chk_snoc r1 (fun j hj => ?_) (fun j hj => ?_)
          · have hj' := (way_mem hw k ch (by omega) j (List.mem_reverse.mp hj)).1
            exact ⟨hrel j hj', fun x hx => hrel x (off_sub hw (by omega) hj' x hx)⟩
          · rw [List.getLast?_reverse] at hj
            have e := way_head hw (by omega) hj
            subst e
            refine hab (fun e => ?_)
            subst e; rw [way_0] at hj; cases hj
        · rcases List.mem_cons.mp ha with q | q
          · subst q
            have hsub : fnd g k ch ≠ 0 → fnd g k ch ∈ nd g ch := fun e => (fnd_mem hw k ch (by omega) e).1
            refine ⟨fun x hx => ?_, fun e => ?_⟩
            · have e : fnd g k ch ≠ 0 := fun e => by rw [e, nd_0] at hx; cases hx
              exact hrel x (nd_sub hw (by omega) (hsub e) x hx)
            · have hch : ch ≠ 0 := fun e2 => by subst e2; rw [fnd_0] at e; exact e rfl
              exact hp_le hw (by omega) (hab hch) (hsub e)
          · exact r2 a q
