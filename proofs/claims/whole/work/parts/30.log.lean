/-! pure rows: the words of a walk at known places; the log of nodes (ids grow, children before parents) -/
theorem cset_ap (s : CS) (i : Nat) (f : Nat → Int32) (j : Nat) : cset s i f j = if j = i then f else s j := by
  unfold cset
  by_cases h : j = i
  · subst h; simp
  · have : Nat.beq j i = false := by
      cases hb : Nat.beq j i with
      | false => rfl
      | true => exact absurd (Nat.eq_of_beq_eq_true hb) h
    simp [this, h]
theorem cset_eq (s : CS) (i : Nat) (f : Nat → Int32) : cset s i f i = f := by rw [cset_ap]; simp
theorem cset_ne (s : CS) {i j : Nat} (f : Nat → Int32) (h : j ≠ i) : cset s i f j = s j := by rw [cset_ap]; simp [h]
theorem upd_ap (f : Nat → Int32) (k : Nat) (x : Int32) (j : Nat) : upd f k x j = if j = k then x else f j := by
  by_cases h : j = k
  · subst h; rw [pk_us]; simp
  · rw [pk_un h]; simp [h]
theorem rdA.mk {f : Nat → Int32} {n : Nat} {i : Int32} {K : Int32 → Prop} (p : Nat) (hi : i = nI p) (hp : p < n) (hn : n < 2 ^ 31) (h : K (f p)) : rdA f n i K := by
  subst hi
  exact ⟨vp_in_nI hp hn, fun x hx => by rw [hx, nI_clamp (by omega)]; exact h⟩
theorem wrA.mk {s : CS} {j n : Nat} {i x : Int32} {K : CS → Prop} (p : Nat) (hi : i = nI p) (hp : p < n) (hn : n < 2 ^ 31) (h : K (cset s j (upd (s j) p x))) : wrA s j n i x K := by
  subst hi
  exact ⟨vp_in_nI hp hn, fun s1 hs => by rw [hs, nI_clamp (by omega)]; exact h⟩
theorem vpB {x : Int32} (h : isB x) : vp_nar .boolean x = x := by
  unfold vp_nar
  rw [isB_nar h]
theorem wrZ.mk {s : CS} {j n : Nat} {i x : Int32} {K : CS → Prop} (p : Nat) (hi : i = nI p) (hp : p < n) (hn : n < 2 ^ 31) (hx : isB x) (h : K (cset s j (upd (s j) p x))) : wrZ s j n i x K := by
  subst hi
  exact ⟨vp_in_nI hp hn, fun s1 hs => by rw [hs, nI_clamp (by omega), vpB hx]; exact h⟩
theorem stF.mk {s : CS} {j : Nat} {x : Int32} {K : CS → Prop} (h : K (cset s j (fun _ => x))) : stF s j x K := fun s1 hs => by rw [hs]; exact h
theorem nmI.mk {v : Int32} {K : Int32 → Prop} (h : K v) : nmI v K := fun x hx => by rw [hx]; exact h
theorem nmL.mk {v : Int64} {K : Int64 → Prop} (h : K v) : nmL v K := fun x hx => by rw [hx]; exact h
theorem brN.mk {c A B : Prop} (h1 : c → A) (h2 : ¬ c → B) : brN c A B := ⟨h1, h2⟩
theorem brN.mt {c A B : Prop} (hc : c) (h1 : A) : brN c A B := ⟨fun _ => h1, fun h => absurd hc h⟩
theorem brN.mf {c A B : Prop} (hc : ¬ c) (h2 : B) : brN c A B := ⟨fun h => absurd h hc, fun _ => h2⟩
def bI (b : Bool) : Int32 := if b then 1 else 0
theorem bI_B (b : Bool) : isB (bI b) := by cases b; exact Or.inl rfl; exact Or.inr rfl
theorem bI_0 {b : Bool} : bI b = 0 ↔ b = false := by cases b <;> simp [bI]
theorem bI_1 {b : Bool} : bI b = 1 ↔ b = true := by cases b <;> simp [bI]
theorem i32_lt_asymm {x y : Int32} (h : x < y) : ¬ y < x := by
  rw [Int32.lt_iff_toInt_lt] at *; omega
theorem i32_lt_trans {x y z : Int32} (h : x < y) (h2 : y < z) : x < z := by
  rw [Int32.lt_iff_toInt_lt] at *; omega
theorem i32_lt_ne {x y : Int32} (h : x < y) : x ≠ y := by
  intro e; subst e; rw [Int32.lt_iff_toInt_lt] at h; omega
theorem i32_tri {x y : Int32} (h : ¬ x < y) (h2 : x ≠ y) : y < x := by
  rw [Int32.lt_iff_toInt_lt] at *
  have : x.toInt ≠ y.toInt := fun e => h2 (Int32.toInt_inj.mp e)
  omega
theorem i32_nle {x y : Int32} : ¬ x ≤ y ↔ y < x := by
  rw [Int32.le_iff_toInt_le, Int32.lt_iff_toInt_lt]; omega
theorem i32_nlt {x y : Int32} : ¬ x < y ↔ y ≤ x := by
  rw [Int32.le_iff_toInt_le, Int32.lt_iff_toInt_lt]; omega
theorem i32_le_of_lt {x y : Int32} (h : x < y) : x ≤ y := by
  rw [Int32.le_iff_toInt_le]; rw [Int32.lt_iff_toInt_lt] at h; omega
theorem i32_irr {x : Int32} : ¬ x < x := by rw [Int32.lt_iff_toInt_lt]; omega
def upn {α : Type} (f : Nat → α) (i : Nat) (x : α) : Nat → α := fun j => if j = i then x else f j
theorem upn_eq {α : Type} (f : Nat → α) (i : Nat) (x : α) : upn f i x i = x := by simp [upn]
theorem upn_ne {α : Type} (f : Nat → α) {i j : Nat} (x : α) (h : j ≠ i) : upn f i x j = f j := by simp [upn, h]
/-- a log of nodes: key, value, weight, left, right by id -/
abbrev LG : Type := (Nat → Int32) × (Nat → Int32) × (Nat → Int32) × (Nat → Nat) × (Nat → Nat)
def gK (g : LG) : Nat → Int32 := g.1
def gV (g : LG) : Nat → Int32 := g.2.1
def gW (g : LG) : Nat → Int32 := g.2.2.1
def gL (g : LG) : Nat → Nat := g.2.2.2.1
def gR (g : LG) : Nat → Nat := g.2.2.2.2
def gadd (g : LG) (i : Nat) (k v w : Int32) (l r : Nat) : LG := (upn (gK g) i k, upn (gV g) i v, upn (gW g) i w, upn (gL g) i l, upn (gR g) i r)
theorem gK_add (g : LG) (i : Nat) (k v w : Int32) (l r : Nat) : gK (gadd g i k v w l r) = upn (gK g) i k := rfl
theorem gV_add (g : LG) (i : Nat) (k v w : Int32) (l r : Nat) : gV (gadd g i k v w l r) = upn (gV g) i v := rfl
theorem gW_add (g : LG) (i : Nat) (k v w : Int32) (l r : Nat) : gW (gadd g i k v w l r) = upn (gW g) i w := rfl
theorem gL_add (g : LG) (i : Nat) (k v w : Int32) (l r : Nat) : gL (gadd g i k v w l r) = upn (gL g) i l := rfl
theorem gR_add (g : LG) (i : Nat) (k v w : Int32) (l r : Nat) : gR (gadd g i k v w l r) = upn (gR g) i r := rfl
/-- the ids of a tree, by rising keys -/
def nd (g : LG) (i : Nat) : List Nat :=
  if h : 0 < i ∧ gL g i < i ∧ gR g i < i then nd g (gL g i) ++ i :: nd g (gR g i) else []
termination_by i
decreasing_by
  · exact h.2.1
  · exact h.2.2
theorem nd_0 (g : LG) : nd g 0 = [] := by rw [nd]; simp
/-- the two logs have the same nodes up to n -/
def agr (g g' : LG) (n : Nat) : Prop := ∀ i, 0 < i → i ≤ n → gK g' i = gK g i ∧ gV g' i = gV g i ∧ gW g' i = gW g i ∧ gL g' i = gL g i ∧ gR g' i = gR g i
theorem agr.rf (g : LG) (n : Nat) : agr g g n := fun _ _ _ => ⟨rfl, rfl, rfl, rfl, rfl⟩
theorem agr.tr {g g' g'' : LG} {n n' : Nat} (h : agr g g' n) (h' : agr g' g'' n') (hn : n ≤ n') : agr g g'' n := fun i h0 hi => by
  obtain ⟨a1, a2, a3, a4, a5⟩ := h i h0 hi
  obtain ⟨b1, b2, b3, b4, b5⟩ := h' i h0 (Nat.le_trans hi hn)
  exact ⟨b1.trans a1, b2.trans a2, b3.trans a3, b4.trans a4, b5.trans a5⟩
theorem agr.add (g : LG) (n : Nat) (k v w : Int32) (l r : Nat) : agr g (gadd g (n + 1) k v w l r) n := fun i _ hi => by
  have h : i ≠ n + 1 := by omega
  simp [gK_add, gV_add, gW_add, gL_add, gR_add, upn, h]
theorem nd_agr {g g' : LG} {n : Nat} (h : agr g g' n) : ∀ i, i ≤ n → nd g' i = nd g i := by
  intro i
  induction i using Nat.strongRecOn with
  | _ i ih =>
    intro hi
    rcases Nat.eq_zero_or_pos i with h0 | h0
    · subst h0; rw [nd_0, nd_0]
    · obtain ⟨-, -, -, hl, hr⟩ := h i h0 hi
      rw [nd.eq_1 g' i, nd.eq_1 g i, hl, hr]
      by_cases hc : 0 < i ∧ gL g i < i ∧ gR g i < i
      · rw [dif_pos hc, dif_pos hc, ih _ hc.2.1 (by omega), ih _ hc.2.2 (by omega)]
      · rw [dif_neg hc, dif_neg hc]
theorem nd_le {g : LG} : ∀ {i j : Nat}, j ∈ nd g i → 0 < j ∧ j ≤ i := by
  intro i
  induction i using Nat.strongRecOn with
  | _ i ih =>
    intro j hj
    rw [nd] at hj
    by_cases hc : 0 < i ∧ gL g i < i ∧ gR g i < i
    · rw [dif_pos hc] at hj
      rcases List.mem_append.mp hj with h | h
      · have := ih _ hc.2.1 h; omega
      · rcases List.mem_cons.mp h with h | h
        · omega
        · have := ih _ hc.2.2 h; omega
    · rw [dif_neg hc] at hj; cases hj
/-- x goes above y -/
def abv (w k w' k' : Int32) : Bool := decide (w' < w) || (decide (w = w') && decide (k < k'))
def abB (g : LG) (i j : Nat) : Bool := abv (gW g i) (gK g i) (gW g j) (gK g j)
def abG (g : LG) (i j : Nat) : Prop := abB g i j = true
/-- every node of the log up to n: children before it, keys in order, weights in order -/
def wfN (g : LG) (i : Nat) : Prop := gL g i < i ∧ gR g i < i ∧ (∀ j ∈ nd g (gL g i), gK g j < gK g i) ∧ (∀ j ∈ nd g (gR g i), gK g i < gK g j) ∧ (gL g i ≠ 0 → abG g i (gL g i)) ∧ (gR g i ≠ 0 → abG g i (gR g i))
def wfG (g : LG) (n : Nat) : Prop := ∀ i, 0 < i → i ≤ n → wfN g i
theorem wfG.mono {g : LG} {n n' : Nat} (h : wfG g n) (hn : n' ≤ n) : wfG g n' := fun i h0 hi => h i h0 (Nat.le_trans hi hn)
theorem wfG.agr {g g' : LG} {n : Nat} (h : wfG g n) (ha : agr g g' n) : wfG g' n := by
  intro i h0 hi
  obtain ⟨w1, w2, w3, w4, w5, w6⟩ := h i h0 hi
  obtain ⟨a1, a2, a3, a4, a5⟩ := ha i h0 hi
  unfold wfN abG abB
  rw [a4, a5, nd_agr ha _ (by omega), nd_agr ha _ (by omega), a1, a3]
  refine ⟨w1, w2, fun j hj => ?_, fun j hj => ?_, fun hne => ?_, fun hne => ?_⟩
  · have hj' := nd_le hj
    rw [(ha j hj'.1 (by omega)).1]; exact w3 j hj
  · have hj' := nd_le hj
    rw [(ha j hj'.1 (by omega)).1]; exact w4 j hj
  · obtain ⟨b1, -, b3, -, -⟩ := ha (gL g i) (by omega) (by omega)
    rw [b1, b3]; exact w5 hne
  · obtain ⟨b1, -, b3, -, -⟩ := ha (gR g i) (by omega) (by omega)
    rw [b1, b3]; exact w6 hne
theorem nd_eq {g : LG} {n i : Nat} (h : wfG g n) (h0 : 0 < i) (hi : i ≤ n) : nd g i = nd g (gL g i) ++ i :: nd g (gR g i) := by
  obtain ⟨w1, w2, -⟩ := h i h0 hi
  rw [nd, dif_pos ⟨h0, w1, w2⟩]
theorem nd_len {g : LG} {n i : Nat} (h : wfG g n) (h0 : 0 < i) (hi : i ≤ n) : (nd g i).length = 1 + (nd g (gL g i)).length + (nd g (gR g i)).length := by
  rw [nd_eq h h0 hi, List.length_append, List.length_cons]; omega
theorem nd_self {g : LG} {n i : Nat} (h : wfG g n) (h0 : 0 < i) (hi : i ≤ n) : i ∈ nd g i := by
  rw [nd_eq h h0 hi]; exact List.mem_append_right _ List.mem_cons_self
theorem nd_sub {g : LG} {n : Nat} (h : wfG g n) : ∀ {i j : Nat}, i ≤ n → j ∈ nd g i → ∀ x ∈ nd g j, x ∈ nd g i := by
  intro i
  induction i using Nat.strongRecOn with
  | _ i ih =>
    intro j hi hj x hx
    rcases Nat.eq_zero_or_pos i with h0 | h0
    · subst h0; rw [nd_0] at hj; cases hj
    · obtain ⟨w1, w2, -⟩ := h i h0 hi
      rw [nd_eq h h0 hi] at hj ⊢
      rcases List.mem_append.mp hj with q | q
      · exact List.mem_append_left _ (ih _ w1 (by omega) q x hx)
      · rcases List.mem_cons.mp q with q | q
        · subst q; rw [nd_eq h h0 hi] at hx; exact hx
        · exact List.mem_append_right _ (List.mem_cons_of_mem _ (ih _ w2 (by omega) q x hx))
theorem nd_left {g : LG} {n i j : Nat} (h : wfG g n) (hi : i ≤ n) (hj : j ∈ nd g i) (hl : gL g j ≠ 0) : gL g j ∈ nd g i := by
  have hj' := nd_le hj
  have w := h j hj'.1 (by omega)
  refine nd_sub h hi hj _ ?_
  rw [nd_eq h hj'.1 (by omega)]
  exact List.mem_append_left _ (nd_self h (by omega) (by have := w.1; omega))
theorem nd_right {g : LG} {n i j : Nat} (h : wfG g n) (hi : i ≤ n) (hj : j ∈ nd g i) (hr : gR g j ≠ 0) : gR g j ∈ nd g i := by
  have hj' := nd_le hj
  have w := h j hj'.1 (by omega)
  refine nd_sub h hi hj _ ?_
  rw [nd_eq h hj'.1 (by omega)]
  exact List.mem_append_right _ (List.mem_cons_of_mem _ (nd_self h (by omega) (by have := w.2.1; omega)))
theorem nd_srt {g : LG} {n : Nat} (h : wfG g n) : ∀ {i : Nat}, i ≤ n → (nd g i).Pairwise (fun a b => gK g a < gK g b) := by
  intro i
  induction i using Nat.strongRecOn with
  | _ i ih =>
    intro hi
    rcases Nat.eq_zero_or_pos i with h0 | h0
    · subst h0; rw [nd_0]; exact List.Pairwise.nil
    · obtain ⟨w1, w2, w3, w4, -⟩ := h i h0 hi
      rw [nd_eq h h0 hi, List.pairwise_append]
      refine ⟨ih _ w1 (by omega), List.pairwise_cons.mpr ⟨w4, ih _ w2 (by omega)⟩, fun a ha b hb => ?_⟩
      rcases List.mem_cons.mp hb with q | q
      · subst q; exact w3 a ha
      · exact i32_lt_trans (w3 a ha) (w4 b q)
theorem nd_nodup {g : LG} {n i : Nat} (h : wfG g n) (hi : i ≤ n) : (nd g i).Nodup := (nd_srt h hi).imp (fun q e => by subst e; exact i32_irr q)
theorem nd_inj {g : LG} {n i a b : Nat} (h : wfG g n) (hi : i ≤ n) (ha : a ∈ nd g i) (hb : b ∈ nd g i) (e : gK g a = gK g b) : a = b := by
  have hs := nd_srt h hi
  generalize nd g i = l at ha hb hs
  induction hs with
  | nil => cases ha
  | cons hx hl ih =>
    rcases List.mem_cons.mp ha with p | p <;> rcases List.mem_cons.mp hb with q | q
    · rw [p, q]
    · subst p; exact absurd e (i32_lt_ne (hx b q))
    · subst q; exact absurd e.symm (i32_lt_ne (hx a p))
    · exact ih p q
/-- a list without doubles, all below m, is not longer than m -/
theorem nodup_len : ∀ (m : Nat) (l : List Nat), l.Nodup → (∀ x ∈ l, x < m) → l.length ≤ m := by
  intro m
  induction m with
  | zero => intro l _ hl; cases l with
    | nil => exact Nat.le_refl _
    | cons a l => exact absurd (hl a List.mem_cons_self) (Nat.not_lt_zero _)
  | succ m ih =>
    intro l hn hl
    have h1 : (l.filter (fun x => !decide (x = m))).length ≤ m := by
      refine ih _ (hn.sublist List.filter_sublist) (fun x hx => ?_)
      have := List.mem_filter.mp hx
      have h2 := hl x this.1
      have h3 : x ≠ m := by simpa using this.2
      omega
    have h2 : l.length ≤ (l.filter (fun x => !decide (x = m))).length + 1 := by
      clear h1 hl ih
      induction l with
      | nil => simp
      | cons a l ih =>
        have hn' := List.nodup_cons.mp hn
        by_cases ha : a = m
        · subst ha
          have : l.filter (fun x => !decide (x = a)) = l := List.filter_eq_self.mpr (fun x hx => by simp; intro e; subst e; exact hn'.1 hx)
          simp [this]
        · have := ih hn'.2
          simp [ha]; omega
    omega
