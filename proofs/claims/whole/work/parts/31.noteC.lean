/-! the class's store as a picture of the log; the ways that updates note -/
def ctB (f : Nat → Int32) : Nat → Nat
  | 0 => 0
  | n + 1 => ctB f n + (if f n = 1 then 1 else 0)
def nodC (C : Nat) (s : CS) (g : LG) (pl : Nat → Nat) (i : Nat) : Prop := (1 ≤ pl i ∧ pl i ≤ C) ∧ s 7 (pl i) = 1 ∧ s 0 (pl i) = gK g i ∧ s 1 (pl i) = gV g i ∧ s 2 (pl i) = gW g i ∧ s 3 (pl i) = nI (pl (gL g i)) ∧ s 4 (pl i) = nI (pl (gR g i)) ∧ s 5 (pl i) = nI (nd g i).length
/-- S: ids that the store holds -/
def repC (C : Nat) (s : CS) (g : LG) (pl : Nat → Nat) (S : Nat → Prop) : Prop := pl 0 = 0 ∧ (∀ i, S i → 0 < i ∧ nodC C s g pl i ∧ (gL g i ≠ 0 → S (gL g i)) ∧ (gR g i ≠ 0 → S (gR g i))) ∧ (∀ i j, S i → S j → pl i = pl j → i = j) ∧ s 5 0 = 0 ∧ s 7 0 = 0 ∧ (∀ p, p ≤ C → isB (s 7 p)) ∧ s 6 0 = nI (ctB (s 7) (C + 1))
def sam (J : List Nat) (s s' : CS) : Prop := ∀ j, j ∉ J → s' j = s j
theorem sam.rf {J : List Nat} {s : CS} : sam J s s := fun _ _ => rfl
theorem sam.tr {J : List Nat} {s s' s'' : CS} (h : sam J s s') (h' : sam J s' s'') : sam J s s'' := fun j hj => (h' j hj).trans (h j hj)
theorem sam.up {J J' : List Nat} {s s' : CS} (h : sam J s s') (hJ : ∀ j ∈ J, j ∈ J') : sam J' s s' := fun j hj => h j (fun q => hj (hJ j q))
theorem sam.cs {J : List Nat} {s : CS} {i : Nat} {f : Nat → Int32} (hi : i ∈ J) : sam J s (cset s i f) := fun j hj => cset_ne s f (fun e => hj (by rw [e]; exact hi))
theorem sam.at {J : List Nat} {s s' : CS} (h : sam J s s') (j : Nat) (hj : j ∉ J := by decide) : s' j = s j := h j hj
theorem repC.sam {C : Nat} {s s' : CS} {g : LG} {pl : Nat → Nat} {S : Nat → Prop} {J : List Nat} (h : repC C s g pl S) (hs : sam J s s') (hJ : ∀ j ∈ J, 8 ≤ j) : repC C s' g pl S := by
  have e : ∀ j, j < 8 → s' j = s j := fun j hj => hs j (fun q => by have := hJ j q; omega)
  obtain ⟨h1, h2, h3, h4, h5, h6, h7⟩ := h
  refine ⟨h1, fun i hi => ?_, h3, by rw [e 5 (by decide)]; exact h4, by rw [e 7 (by decide)]; exact h5, by rw [e 7 (by decide)]; exact h6, by rw [e 6 (by decide), e 7 (by decide)]; exact h7⟩
  obtain ⟨a, b, c, d⟩ := h2 i hi
  refine ⟨a, ?_, c, d⟩
  unfold nodC at *
  rw [e 7 (by decide), e 0 (by decide), e 1 (by decide), e 2 (by decide), e 3 (by decide), e 4 (by decide), e 5 (by decide)]
  exact b
theorem repC.pos {C : Nat} {s : CS} {g : LG} {pl : Nat → Nat} {S : Nat → Prop} (h : repC C s g pl S) {i : Nat} (hi : i = 0 ∨ S i) : pl i = 0 ↔ i = 0 := by
  constructor
  · intro e
    rcases hi with hi | hi
    · exact hi
    · have := (h.2.1 i hi).2.1.1; omega
  · intro e; rw [e]; exact h.1
theorem repC.le {C : Nat} {s : CS} {g : LG} {pl : Nat → Nat} {S : Nat → Prop} (h : repC C s g pl S) {i : Nat} (hi : i = 0 ∨ S i) : pl i ≤ C := by
  rcases hi with hi | hi
  · subst hi; rw [h.1]; omega
  · exact (h.2.1 i hi).2.1.1.2
theorem repC.nd {C n : Nat} {s : CS} {g : LG} {pl : Nat → Nat} {S : Nat → Prop} (h : repC C s g pl S) (hw : wfG g n) : ∀ {i : Nat}, i ≤ n → S i → ∀ j ∈ nd g i, S j := by
  intro i
  induction i using Nat.strongRecOn with
  | _ i ih =>
    intro hi hS j hj
    obtain ⟨h0, -, hl, hr⟩ := h.2.1 i hS
    obtain ⟨w1, w2, -⟩ := hw i h0 hi
    rw [nd_eq hw h0 hi] at hj
    rcases List.mem_append.mp hj with q | q
    · by_cases e : gL g i = 0
      · rw [e, nd_0] at q; cases q
      · exact ih _ w1 (by omega) (hl e) j q
    · rcases List.mem_cons.mp q with q | q
      · rw [q]; exact hS
      · by_cases e : gR g i = 0
        · rw [e, nd_0] at q; cases q
        · exact ih _ w2 (by omega) (hr e) j q
theorem map_nodup {α β : Type} {f : α → β} : ∀ {l : List α}, l.Nodup → (∀ a ∈ l, ∀ b ∈ l, f a = f b → a = b) → (l.map f).Nodup
  | [], _, _ => List.Pairwise.nil
  | a :: l, h, hf => by
    have h' := List.nodup_cons.mp h
    rw [List.map_cons, List.nodup_cons]
    refine ⟨fun q => ?_, map_nodup h'.2 (fun x hx y hy e => hf x (List.mem_cons_of_mem _ hx) y (List.mem_cons_of_mem _ hy) e)⟩
    obtain ⟨b, hb, e⟩ := List.mem_map.mp q
    have := hf b (List.mem_cons_of_mem _ hb) a List.mem_cons_self e
    exact h'.1 (by rw [← this]; exact hb)
/-- ids in the store, without doubles, are at most C -/
theorem repC.len {C : Nat} {s : CS} {g : LG} {pl : Nat → Nat} {S : Nat → Prop} (h : repC C s g pl S) {l : List Nat} (hl : l.Nodup) (hS : ∀ x ∈ l, S x) : l.length ≤ C := by
  have h1 : (l.map (fun x => pl x - 1)).Nodup := map_nodup hl (fun a ha b hb e => by
    have ha1 := (h.2.1 a (hS a ha)).2.1.1
    have hb1 := (h.2.1 b (hS b hb)).2.1.1
    exact h.2.2.1 a b (hS a ha) (hS b hb) (by omega))
  have h2 := nodup_len C _ h1 (fun x hx => by
    obtain ⟨a, ha, e⟩ := List.mem_map.mp hx
    have ha1 := (h.2.1 a (hS a ha)).2.1.1
    omega)
  simpa using h2
/-- the node with k in the tree i, or 0; the nodes above it -/
def fnd (g : LG) (k : Int32) (i : Nat) : Nat :=
  if h : 0 < i ∧ gL g i < i ∧ gR g i < i then (if gK g i = k then i else if gK g i < k then fnd g k (gR g i) else fnd g k (gL g i)) else 0
termination_by i
decreasing_by
  · exact h.2.2
  · exact h.2.1
def way (g : LG) (k : Int32) (i : Nat) : List Nat :=
  if h : 0 < i ∧ gL g i < i ∧ gR g i < i then (if gK g i = k then [] else i :: (if gK g i < k then way g k (gR g i) else way g k (gL g i))) else []
termination_by i
decreasing_by
  · exact h.2.2
  · exact h.2.1
/-- the nodes with keys less than k on the way to k, beyond it to the left -/
def lsr (g : LG) (k : Int32) (i : Nat) : List Nat :=
  if h : 0 < i ∧ gL g i < i ∧ gR g i < i then (if gK g i < k then i :: lsr g k (gR g i) else lsr g k (gL g i)) else []
termination_by i
decreasing_by
  · exact h.2.2
  · exact h.2.1
/-- what the joint copies, and what hangs uncopied under the last -/
def jnt (g : LG) (l r : Nat) : List Nat :=
  if h : (0 < l ∧ 0 < r) ∧ gR g l < l ∧ gL g r < r then (if abB g l r = true then l :: jnt g (gR g l) r else r :: jnt g l (gL g r)) else []
termination_by l + r
decreasing_by
  · omega
  · omega
def jrs (g : LG) (l r : Nat) : Nat :=
  if h : (0 < l ∧ 0 < r) ∧ gR g l < l ∧ gL g r < r then (if abB g l r = true then jrs g (gR g l) r else jrs g l (gL g r)) else (if l = 0 then r else l)
termination_by l + r
decreasing_by
  · omega
  · omega
theorem fnd_0 (g : LG) (k : Int32) : fnd g k 0 = 0 := by rw [fnd]; simp
theorem way_0 (g : LG) (k : Int32) : way g k 0 = [] := by rw [way]; simp
theorem lsr_0 (g : LG) (k : Int32) : lsr g k 0 = [] := by rw [lsr]; simp
theorem fnd_eq {g : LG} {n i : Nat} (h : wfG g n) (h0 : 0 < i) (hi : i ≤ n) (k : Int32) : fnd g k i = if gK g i = k then i else if gK g i < k then fnd g k (gR g i) else fnd g k (gL g i) := by
  obtain ⟨w1, w2, -⟩ := h i h0 hi
  rw [fnd.eq_1 g k i, dif_pos ⟨h0, w1, w2⟩]
theorem way_eq {g : LG} {n i : Nat} (h : wfG g n) (h0 : 0 < i) (hi : i ≤ n) (k : Int32) : way g k i = if gK g i = k then [] else i :: (if gK g i < k then way g k (gR g i) else way g k (gL g i)) := by
  obtain ⟨w1, w2, -⟩ := h i h0 hi
  rw [way.eq_1 g k i, dif_pos ⟨h0, w1, w2⟩]
theorem lsr_eq {g : LG} {n i : Nat} (h : wfG g n) (h0 : 0 < i) (hi : i ≤ n) (k : Int32) : lsr g k i = if gK g i < k then i :: lsr g k (gR g i) else lsr g k (gL g i) := by
  obtain ⟨w1, w2, -⟩ := h i h0 hi
  rw [lsr.eq_1 g k i, dif_pos ⟨h0, w1, w2⟩]
theorem jnt_eq {g : LG} {n l r : Nat} (h : wfG g n) (hl0 : 0 < l) (hl : l ≤ n) (hr0 : 0 < r) (hr : r ≤ n) : jnt g l r = if abB g l r = true then l :: jnt g (gR g l) r else r :: jnt g l (gL g r) := by
  rw [jnt.eq_1 g l r, dif_pos ⟨⟨hl0, hr0⟩, (h l hl0 hl).2.1, (h r hr0 hr).1⟩]
theorem jrs_eq {g : LG} {n l r : Nat} (h : wfG g n) (hl0 : 0 < l) (hl : l ≤ n) (hr0 : 0 < r) (hr : r ≤ n) : jrs g l r = if abB g l r = true then jrs g (gR g l) r else jrs g l (gL g r) := by
  rw [jrs.eq_1 g l r, dif_pos ⟨⟨hl0, hr0⟩, (h l hl0 hl).2.1, (h r hr0 hr).1⟩]
theorem jnt_0l (g : LG) (r : Nat) : jnt g 0 r = [] := by rw [jnt]; simp
theorem jnt_0r (g : LG) (l : Nat) : jnt g l 0 = [] := by rw [jnt]; simp
theorem jrs_0l (g : LG) (r : Nat) : jrs g 0 r = r := by rw [jrs]; simp
theorem jrs_0r (g : LG) (l : Nat) : jrs g l 0 = l := by rw [jrs]; by_cases h : l = 0 <;> simp [h]
/-- the noted row holds the places of a list of ids -/
def noted (s : CS) (pl : Nat → Nat) (ns : List Nat) : Prop := s 11 0 = nI ns.length ∧ ∀ j, j < ns.length → s 10 j = nI (pl (ns.getD j 0))
theorem noted.sam {s s' : CS} {pl : Nat → Nat} {ns : List Nat} (h : noted s pl ns) (h1 : s' 10 = s 10) (h2 : s' 11 = s 11) : noted s' pl ns := by
  unfold noted; rw [h1, h2]; exact h
theorem getD_app_last (ns : List Nat) (i : Nat) : (ns ++ [i]).getD ns.length 0 = i := by simp
theorem getD_app_lt (ns : List Nat) (i : Nat) {j : Nat} (h : j < ns.length) : (ns ++ [i]).getD j 0 = ns.getD j 0 := by
  simp [List.getElem?_append_left h]
theorem noted.push {s : CS} {pl : Nat → Nat} {ns : List Nat} {i : Nat} (h : noted s pl ns) : noted (cset (cset s 10 (upd (s 10) ns.length (nI (pl i)))) 11 (fun _ => nI (ns.length + 1))) pl (ns ++ [i]) := by
  refine ⟨?_, fun j hj => ?_⟩
  · rw [cset_eq]; simp
  · rw [cset_ne _ _ (by decide), cset_eq, upd_ap]
    rw [List.length_append, List.length_singleton] at hj
    by_cases e : j = ns.length
    · rw [if_pos e, e, getD_app_last]
    · rw [if_neg e, getD_app_lt ns i (by omega)]; exact h.2 j (by omega)
theorem noted_0 (s : CS) (pl : Nat → Nat) : noted (cset s 11 (fun _ => 0)) pl [] := ⟨by rw [cset_eq]; rfl, fun j hj => absurd hj (Nat.not_lt_zero j)⟩
section NoteC
variable {C V n : Nat} {s : CS} {g : LG} {pl : Nat → Nat} {S : Nat → Prop}
theorem goesAbove_spec (hr : repC C s g pl S) (hC : C ≤ 40) {i : Nat} (hi : S i) {w k : Int32} {post : Int32 → CS → Prop} (h : post (bI (abv (gW g i) (gK g i) w k)) s) : wp_X0_goesAbove C V (nI (pl i)) w k s post := by
  obtain ⟨h0, ⟨⟨p1, p2⟩, -, ek, -, ew, -⟩, -⟩ := hr.2.1 i hi
  unfold wp_X0_goesAbove
  refine rdA.mk (pl i) rfl (by omega) (by omega) ?_
  rw [ew]
  refine brN.mk (fun c => ?_) (fun c => ?_)
  · refine rdA.mk (pl i) rfl (by omega) (by omega) ?_
    rw [ek]
    subst c
    refine brN.mk (fun c2 => ?_) (fun c2 => ?_)
    · have : abv (gW g i) (gK g i) (gW g i) k = false := by simp [abv, i32_irr, i32_nlt.mpr c2]
      rw [this] at h; exact h
    · have : abv (gW g i) (gK g i) (gW g i) k = true := by simp [abv, i32_nle.mp c2]
      rw [this] at h; exact h
  · refine rdA.mk (pl i) rfl (by omega) (by omega) ?_
    rw [ew]
    refine brN.mk (fun c2 => ?_) (fun c2 => ?_)
    · have : abv (gW g i) (gK g i) w k = false := by simp [abv, c, i32_nlt.mpr c2]
      rw [this] at h; exact h
    · have : abv (gW g i) (gK g i) w k = true := by simp [abv, i32_nle.mp c2]
      rw [this] at h; exact h
theorem kid_ok (hr : repC C s g pl S) {i : Nat} (hi : S i) : (gL g i = 0 ∨ S (gL g i)) ∧ (gR g i = 0 ∨ S (gR g i)) := by
  obtain ⟨h0, -, hl, hr'⟩ := hr.2.1 i hi
  exact ⟨by by_cases e : gL g i = 0; exact Or.inl e; exact Or.inr (hl e), by by_cases e : gR g i = 0; exact Or.inl e; exact Or.inr (hr' e)⟩
theorem noteTo_loop (hr : repC C s g pl S) (hw : wfG g n) (hC : C ≤ 40) (k : Int32) {post : Int32 → CS → Prop} :
    ∀ (f i : Nat) (acc : List Nat) (s1 : CS), sam [10, 11] s s1 → noted s1 pl acc → acc.length + (nd g i).length ≤ C → (nd g i).length < f → (i = 0 ∨ S i) → i ≤ n →
      (∀ s2, sam [10, 11] s s2 → noted s2 pl (acc ++ way g k i) → post (nI (pl (fnd g k i))) s2) → lp_X1_noteTo_7 C V post f k (nI (pl i)) s1 := by
  intro f
  induction f with
  | zero => intro i acc s1 _ _ _ h; exact absurd h (Nat.not_lt_zero _)
  | succ f ih =>
    intro i acc s1 hs hn hc hf hi hin hp
    have hr1 := hr.sam hs (by decide)
    unfold lp_X1_noteTo_7
    refine nmI.mk (nmI.mk ?_)
    rw [hn.1]
    refine brN.mk (fun c => ?_) (fun c => ?_)
    · have hC' : C ≤ acc.length := (nI_leI (by omega) (by omega)).mp c
      have e : i = 0 := by
        rcases hi with q | q
        · exact q
        · have := nd_len hw (hr.2.1 i q).1 hin; omega
      subst e
      have := hp s1 hs (by rw [way_0, List.append_nil]; exact hn)
      rw [fnd_0] at this; exact this
    · have hC' : acc.length < C := by
        rcases Nat.lt_or_ge acc.length C with q | q
        · exact q
        · exact absurd (nI_le q (by omega)) c
      refine brN.mk (fun c2 => ?_) (fun c2 => ?_)
      · have e : i = 0 := (hr.pos hi).mp ((nI_eq (a := pl i) (b := 0) (by have := hr.le hi; omega) (by decide)).mp c2)
        subst e
        have := hp s1 hs (by rw [way_0, List.append_nil]; exact hn)
        rw [fnd_0] at this; exact this
      · have hne : i ≠ 0 := fun e => c2 (by rw [e, hr.1]; rfl)
        have hS : S i := hi.resolve_left hne
        obtain ⟨h0, ⟨⟨p1, p2⟩, -, ek, -, -, el, er, -⟩, -⟩ := hr1.2.1 i hS
        obtain ⟨w1, w2, -⟩ := hw i h0 hin
        have hlen := nd_len hw h0 hin
        refine rdA.mk (pl i) rfl (by omega) (by omega) ?_
        rw [ek]
        rw [fnd_eq hw h0 hin, way_eq hw h0 hin] at hp
        refine brN.mk (fun c3 => ?_) (fun c3 => ?_)
        · rw [if_pos c3, if_pos c3, List.append_nil] at hp
          exact hp s1 hs hn
        · rw [if_neg c3, if_neg c3] at hp
          refine nmI.mk ?_
          refine wrA.mk acc.length rfl hC' (by omega) ?_
          refine nmI.mk (nmI.mk ?_)
          rw [cset_ne _ _ (by decide), hn.1, nI_1]
          refine stF.mk ?_
          have hs2 := (hs.tr (sam.cs (s := s1) (i := 10) (f := upd (s1 10) acc.length (nI (pl i))) (by decide))).tr (sam.cs (i := 11) (f := fun _ => nI (acc.length + 1)) (by decide))
          have hn2 := hn.push (i := i)
          generalize cset (cset s1 10 (upd (s1 10) acc.length (nI (pl i)))) 11 (fun _ => nI (acc.length + 1)) = s3 at hs2 hn2 ⊢
          obtain ⟨-, ⟨-, -, ek3, -, -, el3, er3, -⟩, -⟩ := (hr.sam hs2 (by decide)).2.1 i hS
          refine rdA.mk (pl i) rfl (by omega) (by omega) ?_
          rw [ek3]
          refine brN.mk (fun c4 => ?_) (fun c4 => ?_)
          · refine rdA.mk (pl i) rfl (by omega) (by omega) ?_
            rw [el3]
            have c5 : ¬ gK g i < k := i32_nlt.mpr c4
            rw [if_neg c5, if_neg c5] at hp
            exact ih _ (acc ++ [i]) s3 hs2 hn2 (by simp; omega) (by omega) (kid_ok hr hS).1 (by omega) (fun s4 h1 h2 => hp s4 h1 (by simpa using h2))
          · refine rdA.mk (pl i) rfl (by omega) (by omega) ?_
            rw [er3]
            have c5 : gK g i < k := i32_nle.mp c4
            rw [if_pos c5, if_pos c5] at hp
            exact ih _ (acc ++ [i]) s3 hs2 hn2 (by simp; omega) (by omega) (kid_ok hr hS).2 (by omega) (fun s4 h1 h2 => hp s4 h1 (by simpa using h2))
theorem noteTo_spec (hr : repC C s g pl S) (hw : wfG g n) (hC : C ≤ 40) {i : Nat} (hi : i = 0 ∨ S i) (hin : i ≤ n) (hsz : (nd g i).length ≤ C) {k : Int32} {post : Int32 → CS → Prop}
    (hp : ∀ s2, sam [10, 11] s s2 → noted s2 pl (way g k i) → post (nI (pl (fnd g k i))) s2) : wp_X1_noteTo C V (nI (pl i)) k s post := by
  unfold wp_X1_noteTo
  refine stF.mk ⟨_, noteTo_loop hr hw hC k ((nd g i).length + 1) i [] _ (sam.cs (by decide)) (noted_0 s pl) (by simpa using hsz) (Nat.lt_succ_self _) hi hin (fun s2 h1 h2 => hp s2 h1 (by simpa using h2))⟩
theorem noteLesser_loop (hr : repC C s g pl S) (hw : wfG g n) (hC : C ≤ 40) (k : Int32) {post : CS → Prop} :
    ∀ (f i t : Nat) (acc : List Nat) (s1 : CS), sam [10, 11] s s1 → noted s1 pl acc → acc.length ≤ t → t + (nd g i).length ≤ C → (nd g i).length < f → (i = 0 ∨ S i) → i ≤ n →
      (∀ s2, sam [10, 11] s s2 → noted s2 pl (acc ++ lsr g k i) → post s2) → lp_X1_noteLesser_10 C V post f k (nI (pl i)) (nI t) s1 := by
  intro f
  induction f with
  | zero => intro i t acc s1 _ _ _ _ h; exact absurd h (Nat.not_lt_zero _)
  | succ f ih =>
    intro i t acc s1 hs hn ht hc hf hi hin hp
    have hr1 := hr.sam hs (by decide)
    unfold lp_X1_noteLesser_10
    refine nmI.mk ?_
    refine brN.mk (fun c => ?_) (fun c => ?_)
    · have hC' : C ≤ t := (nI_leI (by omega) (by omega)).mp c
      have e : i = 0 := by
        rcases hi with q | q
        · exact q
        · have := nd_len hw (hr.2.1 i q).1 hin; omega
      subst e
      exact hp s1 hs (by rw [lsr_0, List.append_nil]; exact hn)
    · have hC' : t < C := by
        rcases Nat.lt_or_ge t C with q | q
        · exact q
        · exact absurd (nI_le q (by omega)) c
      refine brN.mk (fun c2 => ?_) (fun c2 => ?_)
      · have e : i = 0 := (hr.pos hi).mp ((nI_eq (a := pl i) (b := 0) (by have := hr.le hi; omega) (by decide)).mp c2)
        subst e
        exact hp s1 hs (by rw [lsr_0, List.append_nil]; exact hn)
      · have hne : i ≠ 0 := fun e => c2 (by rw [e, hr.1]; rfl)
        have hS : S i := hi.resolve_left hne
        obtain ⟨h0, ⟨⟨p1, p2⟩, -, ek, -, -, el, er, -⟩, -⟩ := hr1.2.1 i hS
        obtain ⟨w1, w2, -⟩ := hw i h0 hin
        have hlen := nd_len hw h0 hin
        refine rdA.mk (pl i) rfl (by omega) (by omega) ?_
        rw [ek]
        rw [lsr_eq hw h0 hin] at hp
        refine brN.mk (fun c3 => ?_) (fun c3 => ?_)
        · rw [if_neg (i32_nlt.mpr c3)] at hp
          refine rdA.mk (pl i) rfl (by omega) (by omega) (nmI.mk ?_)
          rw [el, nI_1]
          exact ih _ (t + 1) acc s1 hs hn (by omega) (by omega) (by omega) (kid_ok hr hS).1 (by omega) hp
        · rw [if_pos (i32_nle.mp c3)] at hp
          refine nmI.mk ?_
          rw [hn.1]
          refine wrA.mk acc.length rfl (by omega) (by omega) ?_
          refine nmI.mk (nmI.mk ?_)
          rw [cset_ne _ _ (by decide), hn.1, nI_1]
          refine stF.mk ?_
          have hs2 := (hs.tr (sam.cs (s := s1) (i := 10) (f := upd (s1 10) acc.length (nI (pl i))) (by decide))).tr (sam.cs (i := 11) (f := fun _ => nI (acc.length + 1)) (by decide))
          have hn2 := hn.push (i := i)
          generalize cset (cset s1 10 (upd (s1 10) acc.length (nI (pl i)))) 11 (fun _ => nI (acc.length + 1)) = s3 at hs2 hn2 ⊢
          obtain ⟨-, ⟨-, -, ek3, -, -, el3, er3, -⟩, -⟩ := (hr.sam hs2 (by decide)).2.1 i hS
          refine rdA.mk (pl i) rfl (by omega) (by omega) (nmI.mk ?_)
          rw [er3, nI_1]
          exact ih _ (t + 1) (acc ++ [i]) s3 hs2 hn2 (by simp; omega) (by omega) (by omega) (kid_ok hr hS).2 (by omega) (fun s4 h1 h2 => hp s4 h1 (by simpa using h2))
theorem noteLesser_spec (hr : repC C s g pl S) (hw : wfG g n) (hC : C ≤ 40) {i : Nat} (hi : i = 0 ∨ S i) (hin : i ≤ n) (hsz : (nd g i).length ≤ C) {k : Int32} {post : CS → Prop}
    (hp : ∀ s2, sam [10, 11] s s2 → noted s2 pl (lsr g k i) → post s2) : wp_X1_noteLesser C V (nI (pl i)) k s post := by
  unfold wp_X1_noteLesser
  refine stF.mk ⟨_, noteLesser_loop hr hw hC k ((nd g i).length + 1) i 0 [] _ (sam.cs (by decide)) (noted_0 s pl) (Nat.le_refl _) (by simpa using hsz) (Nat.lt_succ_self _) hi hin (fun s2 h1 h2 => hp s2 h1 (by simpa using h2))⟩
theorem noteJoint_loop (hr : repC C s g pl S) (hw : wfG g n) (hC : C ≤ 40) {post : Int32 → CS → Prop} :
    ∀ (f l r : Nat) (acc : List Nat) (s1 : CS), sam [10, 11] s s1 → noted s1 pl acc → acc.length + (nd g l).length + (nd g r).length ≤ C → (nd g l).length + (nd g r).length < f → (l = 0 ∨ S l) → l ≤ n → (r = 0 ∨ S r) → r ≤ n →
      (∀ s2, sam [10, 11] s s2 → noted s2 pl (acc ++ jnt g l r) → post (nI (pl (jrs g l r))) s2) → lp_X1_noteJoint_5 C V post f (nI (pl l)) (nI (pl r)) s1 := by
  intro f
  induction f with
  | zero => intro l r acc s1 _ _ _ h; exact absurd h (Nat.not_lt_zero _)
  | succ f ih =>
    intro l r acc s1 hs hn hc hf hl hln hrr hrn hp
    have hr1 := hr.sam hs (by decide)
    have fin : (l = 0 ∨ r = 0) → brN (nI (pl l) = 0) (post (nI (pl r)) s1) (post (nI (pl l)) s1) := by
      intro h
      refine brN.mk (fun c => ?_) (fun c => ?_)
      · have e : l = 0 := (hr.pos hl).mp ((nI_eq (a := pl l) (b := 0) (by have := hr.le hl; omega) (by decide)).mp c)
        subst e
        have := hp s1 hs (by rw [jnt_0l, List.append_nil]; exact hn)
        rw [jrs_0l] at this; exact this
      · have hne : l ≠ 0 := fun e => c (by rw [e, hr.1]; rfl)
        have e : r = 0 := h.resolve_left hne
        subst e
        have := hp s1 hs (by rw [jnt_0r, List.append_nil]; exact hn)
        rw [jrs_0r] at this; exact this
    unfold lp_X1_noteJoint_5
    refine nmI.mk (nmI.mk ?_)
    rw [hn.1]
    refine brN.mk (fun c => ?_) (fun c => ?_)
    · have hC' : C ≤ acc.length := (nI_leI (by omega) (by omega)).mp c
      refine fin ?_
      rcases hl with q | q
      · exact Or.inl q
      · have := nd_len hw (hr.2.1 l q).1 hln; omega
    · have hC' : acc.length < C := by
        rcases Nat.lt_or_ge acc.length C with q | q
        · exact q
        · exact absurd (nI_le q (by omega)) c
      refine brN.mk (fun c2 => ?_) (fun c2 => ?_)
      · have e : l = 0 := (hr.pos hl).mp ((nI_eq (a := pl l) (b := 0) (by have := hr.le hl; omega) (by decide)).mp c2)
        exact fin (Or.inl e)
      · have hlne : l ≠ 0 := fun e => c2 (by rw [e, hr.1]; rfl)
        have hSl : S l := hl.resolve_left hlne
        refine brN.mk (fun c3 => ?_) (fun c3 => ?_)
        · have e : r = 0 := (hr.pos hrr).mp ((nI_eq (a := pl r) (b := 0) (by have := hr.le hrr; omega) (by decide)).mp c3)
          exact fin (Or.inr e)
        · have hrne : r ≠ 0 := fun e => c3 (by rw [e, hr.1]; rfl)
          have hSr : S r := hrr.resolve_left hrne
          obtain ⟨hl0, ⟨⟨p1, p2⟩, -⟩, -⟩ := hr1.2.1 l hSl
          obtain ⟨hr0, ⟨⟨q1, q2⟩, -, qk, -, qw, -⟩, -⟩ := hr1.2.1 r hSr
          obtain ⟨w1, w2, -⟩ := hw l hl0 hln
          obtain ⟨v1, v2, -⟩ := hw r hr0 hrn
          have hlenl := nd_len hw hl0 hln
          have hlenr := nd_len hw hr0 hrn
          refine rdA.mk (pl r) rfl (by omega) (by omega) ?_
          refine rdA.mk (pl r) rfl (by omega) (by omega) ?_
          rw [qk, qw]
          refine goesAbove_spec hr1 hC hSl ?_
          rw [jnt_eq hw hl0 hln hr0 hrn, jrs_eq hw hl0 hln hr0 hrn] at hp
          refine brN.mk (fun c4 => ?_) (fun c4 => ?_)
          · have c5 : ¬ abB g l r = true := by
              have := bI_0.mp c4
              intro h; unfold abB at h; rw [this] at h; cases h
            rw [if_neg c5, if_neg c5] at hp
            refine nmI.mk ?_
            rw [hn.1]
            refine wrA.mk acc.length rfl hC' (by omega) ?_
            refine rdA.mk (pl r) rfl (by omega) (by omega) (nmI.mk (nmI.mk (stF.mk ?_)))
            rw [cset_ne _ _ (by decide), cset_ne _ _ (by decide), hn.1, nI_1]
            have hs2 := (hs.tr (sam.cs (s := s1) (i := 10) (f := upd (s1 10) acc.length (nI (pl r))) (by decide))).tr (sam.cs (i := 11) (f := fun _ => nI (acc.length + 1)) (by decide))
            have hn2 := hn.push (i := r)
            generalize cset (cset s1 10 (upd (s1 10) acc.length (nI (pl r)))) 11 (fun _ => nI (acc.length + 1)) = s3 at hs2 hn2 ⊢
            obtain ⟨-, ⟨-, -, -, -, -, el3, -⟩, -⟩ := hr1.2.1 r hSr
            rw [el3]
            exact ih _ _ (acc ++ [r]) s3 hs2 hn2 (by simp; omega) (by omega) (Or.inr hSl) hln (kid_ok hr hSr).1 (by omega) (fun s4 h1 h2 => hp s4 h1 (by simpa using h2))
          · have c5 : abB g l r = true := by
              unfold abB
              cases h : abv (gW g l) (gK g l) (gW g r) (gK g r) with
              | true => rfl
              | false => rw [h] at c4; exact absurd rfl c4
            rw [if_pos c5, if_pos c5] at hp
            refine nmI.mk ?_
            rw [hn.1]
            refine wrA.mk acc.length rfl hC' (by omega) ?_
            refine rdA.mk (pl l) rfl (by omega) (by omega) (nmI.mk (nmI.mk (stF.mk ?_)))
            rw [cset_ne _ _ (by decide), cset_ne _ _ (by decide), hn.1, nI_1]
            have hs2 := (hs.tr (sam.cs (s := s1) (i := 10) (f := upd (s1 10) acc.length (nI (pl l))) (by decide))).tr (sam.cs (i := 11) (f := fun _ => nI (acc.length + 1)) (by decide))
            have hn2 := hn.push (i := l)
            generalize cset (cset s1 10 (upd (s1 10) acc.length (nI (pl l)))) 11 (fun _ => nI (acc.length + 1)) = s3 at hs2 hn2 ⊢
            obtain ⟨-, ⟨-, -, -, -, -, -, er3, -⟩, -⟩ := hr1.2.1 l hSl
            rw [er3]
            exact ih _ _ (acc ++ [l]) s3 hs2 hn2 (by simp; omega) (by omega) (kid_ok hr hSl).2 (by omega) (Or.inr hSr) hrn (fun s4 h1 h2 => hp s4 h1 (by simpa using h2))
theorem noteJoint_spec (hr : repC C s g pl S) (hw : wfG g n) (hC : C ≤ 40) {l r : Nat} {acc : List Nat} (hn : noted s pl acc) (hl : l = 0 ∨ S l) (hln : l ≤ n) (hrr : r = 0 ∨ S r) (hrn : r ≤ n) (hsz : acc.length + (nd g l).length + (nd g r).length ≤ C) {post : Int32 → CS → Prop}
    (hp : ∀ s2, sam [10, 11] s s2 → noted s2 pl (acc ++ jnt g l r) → post (nI (pl (jrs g l r))) s2) : wp_X1_noteJoint C V (nI (pl l)) (nI (pl r)) s post := by
  unfold wp_X1_noteJoint
  exact ⟨_, noteJoint_loop hr hw hC _ l r acc s sam.rf hn hsz (Nat.lt_succ_self _) hl hln hrr hrn hp⟩
/-- what a removal copies, and what hangs under it -/
def rmvL (g : LG) (k : Int32) (i : Nat) : List Nat := if fnd g k i = 0 then [] else way g k i ++ jnt g (gL g (fnd g k i)) (gR g (fnd g k i))
def rmvT (g : LG) (k : Int32) (i : Nat) : Nat := if fnd g k i = 0 then i else jrs g (gL g (fnd g k i)) (gR g (fnd g k i))
theorem fnd_mem {g : LG} {n : Nat} (hw : wfG g n) (k : Int32) : ∀ (i : Nat), i ≤ n → fnd g k i ≠ 0 → fnd g k i ∈ nd g i ∧ gK g (fnd g k i) = k := by
  intro i
  induction i using Nat.strongRecOn with
  | _ i ih =>
    intro hi h
    rcases Nat.eq_zero_or_pos i with h0 | h0
    · subst h0; rw [fnd_0] at h; exact absurd rfl h
    · obtain ⟨w1, w2, -⟩ := hw i h0 hi
      rw [fnd_eq hw h0 hi] at h ⊢
      rw [nd_eq hw h0 hi]
      by_cases c : gK g i = k
      · rw [if_pos c] at h ⊢; exact ⟨List.mem_append_right _ List.mem_cons_self, c⟩
      · rw [if_neg c] at h ⊢
        by_cases c2 : gK g i < k
        · rw [if_pos c2] at h ⊢
          have := ih _ w2 (by omega) h
          exact ⟨List.mem_append_right _ (List.mem_cons_of_mem _ this.1), this.2⟩
        · rw [if_neg c2] at h ⊢
          have := ih _ w1 (by omega) h
          exact ⟨List.mem_append_left _ this.1, this.2⟩
theorem way_len {g : LG} {n : Nat} (hw : wfG g n) (k : Int32) : ∀ (i : Nat), i ≤ n → (way g k i).length + (nd g (fnd g k i)).length ≤ (nd g i).length := by
  intro i
  induction i using Nat.strongRecOn with
  | _ i ih =>
    intro hi
    rcases Nat.eq_zero_or_pos i with h0 | h0
    · subst h0; rw [way_0, fnd_0]; simp
    · obtain ⟨w1, w2, -⟩ := hw i h0 hi
      rw [fnd_eq hw h0 hi, way_eq hw h0 hi]
      have hlen := nd_len hw h0 hi
      by_cases c : gK g i = k
      · rw [if_pos c, if_pos c]; simp
      · rw [if_neg c, if_neg c]
        by_cases c2 : gK g i < k
        · rw [if_pos c2, if_pos c2, List.length_cons]
          have := ih _ w2 (by omega); omega
        · rw [if_neg c2, if_neg c2, List.length_cons]
          have := ih _ w1 (by omega); omega
theorem noteRemoval_spec (hr : repC C s g pl S) (hw : wfG g n) (hC : C ≤ 40) {i : Nat} (hi : i = 0 ∨ S i) (hin : i ≤ n) (hsz : (nd g i).length ≤ C) {k : Int32} {post : Int32 → CS → Prop}
    (hp : ∀ s2, sam [10, 11] s s2 → noted s2 pl (rmvL g k i) → post (nI (pl (rmvT g k i))) s2) : wp_X1_noteRemoval C V (nI (pl i)) k s post := by
  unfold wp_X1_noteRemoval
  refine noteTo_spec hr hw hC hi hin hsz (fun s2 hs hn => ?_)
  have hx : fnd g k i = 0 ∨ (S (fnd g k i) ∧ fnd g k i ≤ n) := by
    by_cases e : fnd g k i = 0
    · exact Or.inl e
    · have h1 := (fnd_mem hw k i hin e).1
      have h2 := nd_le h1
      have hS : S i := hi.resolve_left (fun e0 => by subst e0; rw [nd_0] at h1; cases h1)
      exact Or.inr ⟨hr.nd hw hin hS _ h1, by omega⟩
  have hx' : fnd g k i = 0 ∨ S (fnd g k i) := hx.imp id (fun q => q.1)
  refine brN.mk (fun c => ?_) (fun c => ?_)
  · have e : fnd g k i = 0 := (hr.pos hx').mp ((nI_eq (a := pl (fnd g k i)) (b := 0) (by have := hr.le hx'; omega) (by decide)).mp c)
    refine stF.mk ?_
    unfold rmvL rmvT at hp
    rw [if_pos e, if_pos e] at hp
    exact hp _ (hs.tr (sam.cs (by decide))) (noted_0 s2 pl)
  · have hne : fnd g k i ≠ 0 := fun e => c (by rw [e, hr.1]; rfl)
    obtain ⟨hS, hxn⟩ := hx.resolve_left hne
    have hr2 := hr.sam hs (by decide)
    obtain ⟨h0, ⟨⟨p1, p2⟩, -, ek, -, -, el, er, -⟩, -⟩ := hr2.2.1 _ hS
    obtain ⟨w1, w2, -⟩ := hw _ h0 hxn
    refine rdA.mk (pl (fnd g k i)) rfl (by omega) (by omega) ?_
    refine rdA.mk (pl (fnd g k i)) rfl (by omega) (by omega) ?_
    rw [el, er]
    have h1 := way_len hw k i hin
    have h2 := nd_len hw h0 hxn
    refine noteJoint_spec hr2 hw hC hn (kid_ok hr hS).1 (by omega) (kid_ok hr hS).2 (by omega) (by omega) (fun s3 hs3 hn3 => ?_)
    unfold rmvL rmvT at hp
    rw [if_neg hne, if_neg hne] at hp
    exact hp s3 (hs.tr hs3) hn3
end NoteC
