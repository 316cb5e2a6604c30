/-! copying over: pure, and in the class's store -/
/-- copies of the listed nodes (the lowest first) over a tree, each with the copy of the one before on the side where k lies -/
def cpo (k : Int32) : List Nat → LG → Nat → Nat → LG × Nat
  | [], g, _, t => (g, t)
  | i :: is, g, n, t => cpo k is (gadd g (n + 1) (gK g i) (gV g i) (gW g i) (if gK g i < k then gL g i else t) (if gK g i < k then t else gR g i)) (n + 1) (n + 1)
/-- a new node's two trees out of copies of the listed nodes (the lowest first) up to one that goes above it -/
def pln (k w : Int32) : List Nat → LG → Nat → Nat → Nat → LG × Nat × Nat × Nat × List Nat
  | [], g, n, a, b => (g, n, a, b, [])
  | i :: is, g, n, a, b => if abv (gW g i) (gK g i) w k = true then (g, n, a, b, i :: is) else
      if gK g i < k then pln k w is (gadd g (n + 1) (gK g i) (gV g i) (gW g i) (gL g i) a) (n + 1) (n + 1) b
      else pln k w is (gadd g (n + 1) (gK g i) (gV g i) (gW g i) b (gR g i)) (n + 1) a (n + 1)
def Sup (S : Nat → Prop) (n n' : Nat) : Nat → Prop := fun i => S i ∨ (n < i ∧ i ≤ n')
theorem Sup_rf (S : Nat → Prop) (n : Nat) : Sup S n n = S := by
  funext i; apply propext; constructor
  · rintro (h | h); exact h; omega
  · exact Or.inl
theorem Sup_1 (S : Nat → Prop) (n : Nat) : (fun i => S i ∨ i = n + 1) = Sup S n (n + 1) := by
  funext i; apply propext; constructor
  · rintro (h | h); exact Or.inl h; exact Or.inr (by omega)
  · rintro (h | h); exact Or.inl h; exact Or.inr (by omega)
theorem Sup_tr (S : Nat → Prop) {a b c : Nat} (h : a ≤ b) (h' : b ≤ c) : Sup (Sup S a b) b c = Sup S a c := by
  funext i; apply propext; constructor
  · rintro ((h | h) | h)
    · exact Or.inl h
    · exact Or.inr (by omega)
    · exact Or.inr (by omega)
  · rintro (h | h)
    · exact Or.inl (Or.inl h)
    · by_cases q : i ≤ b
      · exact Or.inl (Or.inr ⟨h.1, q⟩)
      · exact Or.inr ⟨by omega, h.2⟩
/-- places that were given stay -/
def plx (pl pl' : Nat → Nat) (n : Nat) : Prop := ∀ i, i ≤ n → pl' i = pl i
theorem plx.rf (pl : Nat → Nat) (n : Nat) : plx pl pl n := fun _ _ => rfl
theorem plx.tr {pl pl' pl'' : Nat → Nat} {n n' : Nat} (h : plx pl pl' n) (h' : plx pl' pl'' n') (hn : n ≤ n') : plx pl pl'' n := fun i hi => (h' i (by omega)).trans (h i hi)
theorem plx.up (pl : Nat → Nat) (n p : Nat) : plx pl (upn pl (n + 1) p) n := fun i hi => upn_ne _ _ (by omega)
theorem noted.plx {s : CS} {pl pl' : Nat → Nat} {ns : List Nat} {n : Nat} (h : noted s pl ns) (hx : plx pl pl' n) (hn : ∀ x ∈ ns, x ≤ n) : noted s pl' ns := by
  refine ⟨h.1, fun j hj => ?_⟩
  rw [h.2 j hj, hx _ (hn _ (by rw [List.getD_eq_getElem?_getD, List.getElem?_eq_getElem hj]; exact List.getElem_mem hj))]
theorem noted.pop {s : CS} {pl : Nat → Nat} {ns : List Nat} {i : Nat} (h : noted s pl (ns ++ [i])) : noted (cset s 11 (fun _ => nI ns.length)) pl ns ∧ s 10 ns.length = nI (pl i) := by
  refine ⟨⟨by rw [cset_eq], fun j hj => ?_⟩, ?_⟩
  · rw [cset_ne _ _ (by decide), h.2 j (by simp; omega), getD_app_lt ns i hj]
  · rw [h.2 ns.length (by simp), getD_app_last]
section OverC
variable {C V n : Nat} {s : CS} {g : LG} {pl : Nat → Nat} {S : Nat → Prop}
theorem copyOver_loop (hC1 : 1 ≤ C) (hC : C ≤ 40) (k : Int32) {post : Int32 → CS → Prop} :
    ∀ (is : List Nat) (f n t : Nat) (s : CS) (g : LG) (pl : Nat → Nat) (S : Nat → Prop), is.length < f → repC C s g pl S → acG g n → (∀ i, S i → i ≤ n) → noted s pl is.reverse → (∀ i ∈ is, S i) → (t = 0 ∨ S t) → ctB (s 7) (C + 1) + is.length ≤ C →
      (∀ (pl' : Nat → Nat) (s' : CS), repC C s' (cpo k is g n t).1 pl' (Sup S n (n + is.length)) → plx pl pl' n → sam [0, 1, 2, 3, 4, 5, 6, 7, 11] s s' → ctB (s' 7) (C + 1) = ctB (s 7) (C + 1) + is.length → post (nI (pl' (cpo k is g n t).2)) s') →
      lp_X1_copyOver_2 C V post f k (nI (pl t)) s := by
  intro is
  induction is with
  | nil =>
    intro f n t s g pl S hf hr ha hSn hn _ ht hu hp
    obtain ⟨f, rfl⟩ : ∃ q, f = q + 1 := ⟨f - 1, by simp at hf; omega⟩
    unfold lp_X1_copyOver_2
    refine nmI.mk (brN.mt (by rw [hn.1]; simp [nI]) ?_)
    have := hp pl s (by simpa [cpo, Sup_rf] using hr) (plx.rf _ _) sam.rf (by simp)
    simpa [cpo] using this
  | cons i is ih =>
    intro f n t s g pl S hf hr ha hSn hn hS ht hu hp
    obtain ⟨f, rfl⟩ : ∃ q, f = q + 1 := ⟨f - 1, by simp at hf; omega⟩
    rw [List.length_cons] at hf hu
    have hSi := hS i List.mem_cons_self
    have hrev : (i :: is).reverse = is.reverse ++ [i] := by simp
    rw [hrev] at hn
    have hlen : s 11 0 = nI (is.length + 1) := by rw [hn.1]; simp
    obtain ⟨hn1, hn2⟩ := hn.pop
    rw [List.length_reverse] at hn1 hn2
    unfold lp_X1_copyOver_2
    refine nmI.mk ?_
    rw [hlen]
    refine brN.mf (nI_nle (by omega) (by omega)) (nmI.mk (nmI.mk ?_))
    rw [nI_pred]
    refine stF.mk (nmI.mk ?_)
    rw [cset_eq]
    have hs1 : sam [0, 1, 2, 3, 4, 5, 6, 7, 11] s (cset s 11 (fun _ => nI is.length)) := sam.cs (by decide)
    have hr1 : repC C (cset s 11 (fun _ => nI is.length)) g pl S := hr.sam (J := [11]) (sam.cs (by decide)) (by decide)
    have h10 : cset s 11 (fun _ => nI is.length) 10 = s 10 := cset_ne _ _ (by decide)
    have hct : ctB (cset s 11 (fun _ => nI is.length) 7) (C + 1) = ctB (s 7) (C + 1) := by rw [cset_ne _ _ (by decide)]
    refine rdA.mk is.length rfl (by omega) (by omega) ?_
    rw [h10, hn2]
    generalize cset s 11 (fun _ => nI is.length) = s1 at hs1 hr1 hn1 hct ⊢
    obtain ⟨i0, ⟨⟨p1, p1'⟩, p2, p3, p4, p5, p6, p7, p8⟩, -⟩ := hr1.2.1 i hSi
    have hin := hSn i hSi
    obtain ⟨w1, w2⟩ := ha i i0 hin
    have htn : t ≤ n := by rcases ht with e | e; omega; exact hSn t e
    have fin : ∀ (p : Nat) (s' : CS) (l r : Nat), l = (if gK g i < k then gL g i else t) → r = (if gK g i < k then t else gR g i) → l ≤ n → r ≤ n → repC C s' (gadd g (n + 1) (gK g i) (gV g i) (gW g i) l r) (upn pl (n + 1) p) (fun i => S i ∨ i = n + 1) → sam [0, 1, 2, 3, 4, 5, 6, 7] s1 s' → ctB (s' 7) (C + 1) = ctB (s1 7) (C + 1) + 1 → lp_X1_copyOver_2 C V post f k (nI (upn pl (n + 1) p (n + 1))) s' := by
      intro p s' l r el er hln hrn hr' hs' hc'
      rw [Sup_1] at hr'
      subst el er
      have hS1 : ∀ j, Sup S n (n + 1) j → j ≤ n + 1 := by
        rintro j (q | q)
        · have := hSn j q; omega
        · exact q.2
      refine ih f (n + 1) (n + 1) s' _ (upn pl (n + 1) p) (Sup S n (n + 1)) (by omega) hr' (ha.add hln hrn) hS1 ?_ (fun j hj => Or.inl (hS j (List.mem_cons_of_mem _ hj))) (Or.inr (Or.inr (by omega))) (by rw [hc', hct]; omega) (fun pl' s2 a1 a2 a3 a4 => ?_)
      · refine (hn1.sam (hs'.at 10) (hs'.at 11)).plx (plx.up pl n p) (fun x hx => hSn x (hS x (List.mem_cons_of_mem _ (List.mem_reverse.mp hx))))
      · have hb := hp pl' s2
        rw [cpo] at hb
        refine hb ?_ ((plx.up pl n p).tr a2 (by omega)) (hs1.tr ((hs'.up (by decide)).tr a3)) (by rw [a4, hc', hct, List.length_cons]; omega)
        rw [Sup_tr S (by omega) (by omega)] at a1
        rw [List.length_cons, show n + (is.length + 1) = n + 1 + is.length by omega]
        exact a1
    refine rdA.mk (pl i) rfl (by omega) (by omega) ?_
    rw [p3]
    refine brN.mk (fun c => ?_) (fun c => ?_)
    · refine rdA.mk (pl i) rfl (by omega) (by omega) ?_
      rw [p7]
      have c' := i32_nlt.mpr c
      exact copy_spec hr1 ha hSn hC1 hC (by omega) hSi ht (kid_ok hr1 hSi).2 (fun p s' a1 a2 a3 => fin p s' t (gR g i) (by rw [if_neg c']) (by rw [if_neg c']) htn (by omega) a1 a2 a3)
    · refine rdA.mk (pl i) rfl (by omega) (by omega) ?_
      rw [p6]
      have c' := i32_nle.mp c
      exact copy_spec hr1 ha hSn hC1 hC (by omega) hSi (kid_ok hr1 hSi).1 ht (fun p s' a1 a2 a3 => fin p s' (gL g i) t (by rw [if_pos c']) (by rw [if_pos c']) (by omega) htn a1 a2 a3)
theorem copyOver_spec (hC1 : 1 ≤ C) (hC : C ≤ 40) {k : Int32} {post : Int32 → CS → Prop} {ns : List Nat} {t : Nat} (hr : repC C s g pl S) (ha : acG g n) (hSn : ∀ i, S i → i ≤ n) (hn : noted s pl ns) (hS : ∀ i ∈ ns, S i) (ht : t = 0 ∨ S t) (hu : ctB (s 7) (C + 1) + ns.length ≤ C)
    (hp : ∀ (pl' : Nat → Nat) (s' : CS), repC C s' (cpo k ns.reverse g n t).1 pl' (Sup S n (n + ns.length)) → plx pl pl' n → sam [0, 1, 2, 3, 4, 5, 6, 7, 11] s s' → ctB (s' 7) (C + 1) = ctB (s 7) (C + 1) + ns.length → post (nI (pl' (cpo k ns.reverse g n t).2)) s') :
    wp_X1_copyOver C V (nI (pl t)) k s post := by
  unfold wp_X1_copyOver
  refine ⟨ns.reverse.length + 1, copyOver_loop hC1 hC k ns.reverse _ n t s g pl S (Nat.lt_succ_self _) hr ha hSn (by rw [List.reverse_reverse]; exact hn) (fun i hi => hS i (List.mem_reverse.mp hi)) ht (by rw [List.length_reverse]; exact hu) ?_⟩
  rw [List.length_reverse]; exact hp
theorem placeNew_loop (hC1 : 1 ≤ C) (hC : C ≤ 40) (k v w : Int32) {post : Int32 → CS → Prop} :
    ∀ (is : List Nat) (f n a b : Nat) (s : CS) (g : LG) (pl : Nat → Nat) (S : Nat → Prop), is.length < f → repC C s g pl S → acG g n → (∀ i, S i → i ≤ n) → noted s pl is.reverse → (∀ i ∈ is, S i) → (a = 0 ∨ S a) → (b = 0 ∨ S b) → ctB (s 7) (C + 1) + is.length + 1 ≤ C →
      (∀ (pl' : Nat → Nat) (s' : CS) (g1 : LG) (n1 a1 b1 : Nat) (rs : List Nat), pln k w is g n a b = (g1, n1, a1, b1, rs) → n1 + rs.length = n + is.length → (∀ i ∈ rs, S i) → repC C s' (gadd g1 (n1 + 1) k v w a1 b1) pl' (Sup S n (n1 + 1)) → acG (gadd g1 (n1 + 1) k v w a1 b1) (n1 + 1) → n ≤ n1 → plx pl pl' n → noted s' pl' rs.reverse → sam [0, 1, 2, 3, 4, 5, 6, 7, 11] s s' → ctB (s' 7) (C + 1) + rs.length = ctB (s 7) (C + 1) + is.length + 1 → post (nI (pl' (n1 + 1))) s') →
      lp_X1_placeNew_6 C V post f k v w (nI (pl a)) (nI (pl b)) s := by
  intro is
  induction is with
  | nil =>
    intro f n a b s g pl S hf hr ha hSn hn _ hA hB hu hp
    obtain ⟨f, rfl⟩ : ∃ q, f = q + 1 := ⟨f - 1, by simp at hf; omega⟩
    unfold lp_X1_placeNew_6
    refine nmI.mk (brN.mt (by rw [hn.1]; simp [nI]) ?_)
    have han : a ≤ n := by rcases hA with e | e; omega; exact hSn a e
    have hbn : b ≤ n := by rcases hB with e | e; omega; exact hSn b e
    refine fresh_spec hr ha hSn hC1 hC (by simp at hu; omega) hA hB (fun p s' a1 a2 a3 => ?_)
    rw [Sup_1] at a1
    exact hp (upn pl (n + 1) p) s' g n a b [] rfl rfl (fun _ h => by cases h) a1 (ha.add han hbn) (Nat.le_refl _) (plx.up _ _ _) ((hn.sam (a2.at 10) (a2.at 11)).plx (plx.up pl n p) (fun x hx => by simp at hx)) (a2.up (by decide)) (by simp [a3])
  | cons i is ih =>
    intro f n a b s g pl S hf hr ha hSn hn hS hA hB hu hp
    obtain ⟨f, rfl⟩ : ∃ q, f = q + 1 := ⟨f - 1, by simp at hf; omega⟩
    rw [List.length_cons] at hf hu
    have han : a ≤ n := by rcases hA with e | e; omega; exact hSn a e
    have hbn : b ≤ n := by rcases hB with e | e; omega; exact hSn b e
    have hSi := hS i List.mem_cons_self
    have hrev : (i :: is).reverse = is.reverse ++ [i] := by simp
    have hn0 := hn
    rw [hrev] at hn
    have hlen : s 11 0 = nI (is.length + 1) := by rw [hn.1]; simp
    obtain ⟨hn1, hn2⟩ := hn.pop
    rw [List.length_reverse] at hn1 hn2
    unfold lp_X1_placeNew_6
    refine nmI.mk ?_
    rw [hlen]
    refine brN.mf (nI_nle (by omega) (by omega)) (nmI.mk (nmI.mk ?_))
    rw [nI_pred]
    refine rdA.mk is.length rfl (by omega) (by omega) ?_
    rw [hn2]
    refine goesAbove_spec hr hC hSi ?_
    refine brN.mk (fun c => ?_) (fun c => ?_)
    · have cab : ¬ abv (gW g i) (gK g i) w k = true := by rw [bI_0.mp c]; simp
      refine nmI.mk (nmI.mk ?_)
      rw [hlen, nI_pred]
      refine stF.mk (nmI.mk ?_)
      rw [cset_eq]
      have hs1 : sam [0, 1, 2, 3, 4, 5, 6, 7, 11] s (cset s 11 (fun _ => nI is.length)) := sam.cs (by decide)
      have hr1 : repC C (cset s 11 (fun _ => nI is.length)) g pl S := hr.sam (J := [11]) (sam.cs (by decide)) (by decide)
      have h10 : cset s 11 (fun _ => nI is.length) 10 = s 10 := cset_ne _ _ (by decide)
      have hct : ctB (cset s 11 (fun _ => nI is.length) 7) (C + 1) = ctB (s 7) (C + 1) := by rw [cset_ne _ _ (by decide)]
      refine rdA.mk is.length rfl (by omega) (by omega) ?_
      rw [h10, hn2]
      generalize cset s 11 (fun _ => nI is.length) = s1 at hs1 hr1 hn1 hct ⊢
      obtain ⟨i0, ⟨⟨p1, p1'⟩, p2, p3, p4, p5, p6, p7, p8⟩, -⟩ := hr1.2.1 i hSi
      have hin := hSn i hSi
      obtain ⟨w1, w2⟩ := ha i i0 hin
      have hS1 : ∀ j, Sup S n (n + 1) j → j ≤ n + 1 := by
        rintro j (q | q)
        · have := hSn j q; omega
        · exact q.2
      refine rdA.mk (pl i) rfl (by omega) (by omega) ?_
      rw [p3]
      refine brN.mk (fun c2 => ?_) (fun c2 => ?_)
      · have c' := i32_nlt.mpr c2
        refine rdA.mk (pl i) rfl (by omega) (by omega) ?_
        rw [p7]
        refine copy_spec hr1 ha hSn hC1 hC (by omega) hSi hB (kid_ok hr1 hSi).2 (fun p s' e1 e2 e3 => ?_)
        rw [Sup_1] at e1
        rw [show pl a = upn pl (n + 1) p a from (plx.up pl n p a han).symm]
        refine ih f (n + 1) a (n + 1) s' _ (upn pl (n + 1) p) (Sup S n (n + 1)) (by omega) e1 (ha.add hbn (by omega)) hS1 ((hn1.sam (e2.at 10) (e2.at 11)).plx (plx.up pl n p) (fun x hx => hSn x (hS x (List.mem_cons_of_mem _ (List.mem_reverse.mp hx))))) (fun j hj => Or.inl (hS j (List.mem_cons_of_mem _ hj))) (hA.imp id Or.inl) (Or.inr (Or.inr (by omega))) (by rw [e3, hct]; omega) ?_
        intro pl' s2 g1 n1 a1 b1 rs x1 x2 x3 x4 x5 x6 x7 x8 x9 x10
        rw [Sup_tr S (by omega) (by omega)] at x4
        refine hp pl' s2 g1 n1 a1 b1 rs (by rw [pln, if_neg cab, if_neg c']; exact x1) (by rw [List.length_cons]; omega) (fun j hj => ?_) x4 x5 (by omega) ((plx.up pl n p).tr x7 (by omega)) x8 (hs1.tr ((e2.up (by decide)).tr x9)) (by rw [List.length_cons]; omega)
        rcases x3 j hj with q | q
        · exact q
        · have : ∀ (is : List Nat) (g : LG) (n a b : Nat), ∀ j ∈ (pln k w is g n a b).2.2.2.2, j ∈ is := by
            intro is
            induction is with
            | nil => intro g n a b j hj; exact hj
            | cons i is ih =>
              intro g n a b j hj
              rw [pln] at hj
              split at hj
              · exact hj
              · split at hj
                · exact List.mem_cons_of_mem _ (ih _ _ _ _ j hj)
                · exact List.mem_cons_of_mem _ (ih _ _ _ _ j hj)
          have hji := this is _ _ _ _ j (by rw [x1]; exact hj)
          exact hS j (List.mem_cons_of_mem _ hji)
      · have c' := i32_nle.mp c2
        refine rdA.mk (pl i) rfl (by omega) (by omega) ?_
        rw [p6]
        refine copy_spec hr1 ha hSn hC1 hC (by omega) hSi (kid_ok hr1 hSi).1 hA (fun p s' e1 e2 e3 => ?_)
        rw [Sup_1] at e1
        rw [show pl b = upn pl (n + 1) p b from (plx.up pl n p b hbn).symm]
        refine ih f (n + 1) (n + 1) b s' _ (upn pl (n + 1) p) (Sup S n (n + 1)) (by omega) e1 (ha.add (by omega) han) hS1 ((hn1.sam (e2.at 10) (e2.at 11)).plx (plx.up pl n p) (fun x hx => hSn x (hS x (List.mem_cons_of_mem _ (List.mem_reverse.mp hx))))) (fun j hj => Or.inl (hS j (List.mem_cons_of_mem _ hj))) (Or.inr (Or.inr (by omega))) (hB.imp id Or.inl) (by rw [e3, hct]; omega) ?_
        intro pl' s2 g1 n1 a1 b1 rs x1 x2 x3 x4 x5 x6 x7 x8 x9 x10
        rw [Sup_tr S (by omega) (by omega)] at x4
        refine hp pl' s2 g1 n1 a1 b1 rs (by rw [pln, if_neg cab, if_pos c']; exact x1) (by rw [List.length_cons]; omega) (fun j hj => ?_) x4 x5 (by omega) ((plx.up pl n p).tr x7 (by omega)) x8 (hs1.tr ((e2.up (by decide)).tr x9)) (by rw [List.length_cons]; omega)
        rcases x3 j hj with q | q
        · exact q
        · have : ∀ (is : List Nat) (g : LG) (n a b : Nat), ∀ j ∈ (pln k w is g n a b).2.2.2.2, j ∈ is := by
            intro is
            induction is with
            | nil => intro g n a b j hj; exact hj
            | cons i is ih =>
              intro g n a b j hj
              rw [pln] at hj
              split at hj
              · exact hj
              · split at hj
                · exact List.mem_cons_of_mem _ (ih _ _ _ _ j hj)
                · exact List.mem_cons_of_mem _ (ih _ _ _ _ j hj)
          have hji := this is _ _ _ _ j (by rw [x1]; exact hj)
          exact hS j (List.mem_cons_of_mem _ hji)
    · have cab : abv (gW g i) (gK g i) w k = true := by
        cases h : abv (gW g i) (gK g i) w k with
        | true => rfl
        | false => rw [h] at c; exact absurd rfl c
      refine fresh_spec hr ha hSn hC1 hC (by omega) hA hB (fun p s' a1 a2 a3 => ?_)
      rw [Sup_1] at a1
      exact hp (upn pl (n + 1) p) s' g n a b (i :: is) (by rw [pln, if_pos cab]) rfl hS a1 (ha.add han hbn) (Nat.le_refl _) (plx.up _ _ _) ((hn0.sam (a2.at 10) (a2.at 11)).plx (plx.up pl n p) (fun x hx => hSn x (hS x (List.mem_reverse.mp hx)))) (a2.up (by decide)) (by rw [List.length_cons]; omega)
theorem placeNew_spec (hC1 : 1 ≤ C) (hC : C ≤ 40) {k v w : Int32} {post : Int32 → CS → Prop} {ns : List Nat} (hr : repC C s g pl S) (ha : acG g n) (hSn : ∀ i, S i → i ≤ n) (hn : noted s pl ns) (hS : ∀ i ∈ ns, S i) (hu : ctB (s 7) (C + 1) + ns.length + 1 ≤ C)
    (hp : ∀ (pl' : Nat → Nat) (s' : CS) (g1 : LG) (n1 a1 b1 : Nat) (rs : List Nat), pln k w ns.reverse g n 0 0 = (g1, n1, a1, b1, rs) → n1 + rs.length = n + ns.length → (∀ i ∈ rs, S i) → repC C s' (gadd g1 (n1 + 1) k v w a1 b1) pl' (Sup S n (n1 + 1)) → acG (gadd g1 (n1 + 1) k v w a1 b1) (n1 + 1) → n ≤ n1 → plx pl pl' n → noted s' pl' rs.reverse → sam [0, 1, 2, 3, 4, 5, 6, 7, 11] s s' → ctB (s' 7) (C + 1) + rs.length = ctB (s 7) (C + 1) + ns.length + 1 → post (nI (pl' (n1 + 1))) s') :
    wp_X1_placeNew C V k v w s post := by
  unfold wp_X1_placeNew
  have h0 : nI (pl 0) = 0 := by rw [hr.1]; rfl
  refine ⟨ns.reverse.length + 1, ?_⟩
  have := placeNew_loop (V := V) hC1 hC k v w (post := post) ns.reverse (ns.reverse.length + 1) n 0 0 s g pl S (Nat.lt_succ_self _) hr ha hSn (by rw [List.reverse_reverse]; exact hn) (fun i hi => hS i (List.mem_reverse.mp hi)) (Or.inl rfl) (Or.inl rfl) (by rw [List.length_reverse]; exact hu) (by rw [List.length_reverse]; exact hp)
  rw [h0] at this
  exact this
end OverC
