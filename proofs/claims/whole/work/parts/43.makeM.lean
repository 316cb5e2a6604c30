/-! fresh rows in the reference, chains of copies that hang from a hole -/
def WS (s : CS) (fr nx : Nat) : Prop := s 17 0 = nI fr ∧ s 18 0 = nI nx ∧ ctB (s 11) nx + fr = nx ∧ (∀ x, x < 160 → isB (s 11 x)) ∧ ctB (s 11) 160 ≤ 40
theorem WS.sam {s s' : CS} {fr nx : Nat} {J : List Nat} (h : WS s fr nx) (hs : sam J s s') (h1 : 11 ∉ J) (h2 : 17 ∉ J) (h3 : 18 ∉ J) : WS s' fr nx := by
  unfold WS; rw [hs 11 h1, hs 17 h2, hs 18 h3]; exact h
theorem ctB_mono (f : Nat → Int32) {a b : Nat} (h : a ≤ b) : ctB f a ≤ ctB f b := by
  induction b with
  | zero => rw [show a = 0 by omega]; exact Nat.le_refl _
  | succ b ih =>
    by_cases e : a = b + 1
    · rw [e]; exact Nat.le_refl _
    · rw [ctB]; have := ih (by omega); omega
/-- s' is s with the row x made anew -/
def mkd (s s' : CS) (x : Nat) (k v w l r : Int32) : Prop := s' 6 = upd (s 6) x k ∧ s' 7 = upd (s 7) x v ∧ s' 8 = upd (s 8) x w ∧ s' 9 = upd (s 9) x l ∧ s' 10 = upd (s 10) x r ∧ sam [6, 7, 8, 9, 10, 17, 18] s s'
theorem make_spec {s : CS} {fr nx : Nat} (hW : WS s fr nx) (hfr : fr ≤ 60) (hnx : nx ≤ 160) {k v w l r : Int32} {post : Int32 → CS → Prop} (hp : ∀ x s', nx ≤ x → x < 101 → s 11 x = 0 → WS s' (fr + 1) (x + 1) → mkd s s' x k v w l r → post (nI x) s') : wp_X3_make k v w l r s post := by
  obtain ⟨h17, h18, hct, hB, h40⟩ := hW
  have lp : ∀ (f q : Nat) (s1 : CS), nx ≤ q → q ≤ 160 → ctB (s 11) q + fr = q → 160 < q + f → sam [18] s s1 → s1 18 0 = nI q → lp_X3_make_0 post f k v w l r s1 := by
    intro f
    induction f with
    | zero => intro q s1 a b c d; omega
    | succ f ih =>
      intro q s1 hq1 hq2 hq3 hf hs1 h18
      have hm := ctB_mono (s 11) hq2
      have hq : q ≤ 100 := by omega
      unfold lp_X3_make_0
      refine nmI.mk ?_
      rw [h18]
      refine rdA.mk q rfl (by omega) (by omega) ?_
      rw [hs1.at 11]
      refine brN.mk (fun c => ?_) (fun c => ?_)
      · refine nmI.mk (nmI.mk (nmI.mk (stF.mk (nmI.mk (nmI.mk (stF.mk ?_))))))
        rw [nI_1]
        refine wrA.mk q rfl (by omega) (by omega) ?_
        refine wrA.mk q rfl (by omega) (by omega) ?_
        refine wrA.mk q rfl (by omega) (by omega) ?_
        refine wrA.mk q rfl (by omega) (by omega) ?_
        refine wrA.mk q rfl (by omega) (by omega) ?_
        have e : ∀ j, j ≠ 18 → s1 j = s j := fun j hj => hs1 j (by simp [hj])
        refine hp q _ hq1 (by omega) c ⟨?_, ?_, ?_, ?_, ?_⟩ ⟨?_, ?_, ?_, ?_, ?_, ?_⟩
        · simp [cset_ap, e 17 (by decide), h17, nI_1]
        · simp [cset_ap]
        · simp [cset_ap, e 11 (by decide)]
          rw [ctB, c]; simp; omega
        · simp [cset_ap, e 11 (by decide)]; exact hB
        · simp [cset_ap, e 11 (by decide)]; exact h40
        · simp [cset_ap, e 6 (by decide)]
        · simp [cset_ap, e 7 (by decide)]
        · simp [cset_ap, e 8 (by decide)]
        · simp [cset_ap, e 9 (by decide)]
        · simp [cset_ap, e 10 (by decide)]
        · intro j hj
          simp at hj
          simp [cset_ap, hj, e j hj.2.2.2.2.2.2]
      · refine nmI.mk (nmI.mk (stF.mk ?_))
        rw [nI_1]
        have e1 := (hB q (by omega)).resolve_left c
        refine ih (q + 1) _ (by omega) (by omega) ?_ (by omega) (hs1.tr (sam.cs (by decide))) (by rw [cset_eq])
        rw [ctB, if_pos e1]; omega
  unfold wp_X3_make
  exact ⟨161, lp 161 nx s (Nat.le_refl _) hnx hct (by omega) sam.rf h18⟩
/-- rows but x are unchanged -/
def eqx (s s' : CS) (x : Nat) : Prop := ∀ c, 6 ≤ c → c ≤ 10 → ∀ r, r ≠ x → s' c r = s c r
theorem mkd.eqx {s s' : CS} {x : Nat} {k v w l r : Int32} (h : mkd s s' x k v w l r) : eqx s s' x := by
  obtain ⟨h6, h7, h8, h9, h10, -⟩ := h
  intro c c1 c2 q hq
  have : c = 6 ∨ c = 7 ∨ c = 8 ∨ c = 9 ∨ c = 10 := by omega
  rcases this with e | e | e | e | e <;> subst e
  · rw [h6, upd_ap, if_neg hq]
  · rw [h7, upd_ap, if_neg hq]
  · rw [h8, upd_ap, if_neg hq]
  · rw [h9, upd_ap, if_neg hq]
  · rw [h10, upd_ap, if_neg hq]
theorem mkd.row {s s' : CS} {x : Nat} {k v w l r : Int32} (h : mkd s s' x k v w l r) : s' 6 x = k ∧ s' 7 x = v ∧ s' 8 x = w ∧ s' 9 x = l ∧ s' 10 x = r := by
  obtain ⟨h6, h7, h8, h9, h10, -⟩ := h
  rw [h6, h7, h8, h9, h10]
  simp [upd_ap]
theorem repM_eqx {s s' : CS} {g : LG} {rl : Nat → Nat} {S : Nat → Prop} (h : repM s g rl S) {x : Nat} (he : eqx s s' x) (hx : ∀ i, S i → rl i ≠ x) : repM s' g rl S := by
  refine ⟨fun i hi => ?_, h.2⟩
  obtain ⟨a, b, c⟩ := h.1 i hi
  refine ⟨a, ?_, c⟩
  unfold nodM at *
  have hne := hx i hi
  rw [he 6 (by decide) (by decide) _ hne, he 7 (by decide) (by decide) _ hne, he 8 (by decide) (by decide) _ hne, he 9 (by decide) (by decide) _ hne, he 10 (by decide) (by decide) _ hne]
  exact b
def rowK (s : CS) (g : LG) (rl : Nat → Nat) (k : Int32) (a r : Nat) : Prop := s 6 r = gK g a ∧ s 7 r = gV g a ∧ s 8 r = gW g a ∧ (if gK g a < k then s 9 r = mI rl (gL g a) else s 10 r = mI rl (gR g a))
def onC (s : CS) (g : LG) (k : Int32) (a r : Nat) (v : Int32) : Prop := if gK g a < k then s 10 r = v else s 9 r = v
def hdv : List (Nat × Nat) → Int32 → Int32
  | [], v => v
  | q :: _, _ => nI q.2
/-- copies of ids at rows, each on the next one's way; the last one's way leads to v -/
def CH (s : CS) (g : LG) (rl : Nat → Nat) (k : Int32) : List (Nat × Nat) → Int32 → Prop
  | [], _ => True
  | q :: l, v => rowK s g rl k q.1 q.2 ∧ onC s g k q.1 q.2 (hdv l v) ∧ CH s g rl k l v
theorem CH_snoc {s : CS} {g : LG} {rl : Nat → Nat} {k : Int32} {a x : Nat} {v : Int32} : ∀ {l : List (Nat × Nat)}, CH s g rl k l (nI x) → rowK s g rl k a x → onC s g k a x v → CH s g rl k (l ++ [(a, x)]) v
  | [], _, h1, h2 => ⟨h1, h2, trivial⟩
  | q :: l, h, h1, h2 => by
    obtain ⟨a1, a2, a3⟩ := h
    refine ⟨a1, ?_, CH_snoc a3 h1 h2⟩
    cases l with
    | nil => exact a2
    | cons p l => exact a2
theorem hdv_snoc (l : List (Nat × Nat)) (a x : Nat) (v : Int32) : hdv (l ++ [(a, x)]) v = hdv l (nI x) := by cases l <;> rfl
theorem CH_eqx {s s' : CS} {g : LG} {rl : Nat → Nat} {k : Int32} {v : Int32} {x : Nat} (he : eqx s s' x) : ∀ {l : List (Nat × Nat)}, (∀ q ∈ l, q.2 ≠ x) → CH s g rl k l v → CH s' g rl k l v
  | [], _, _ => trivial
  | q :: l, hx, h => by
    obtain ⟨⟨b1, b2, b3, b4⟩, a2, a3⟩ := h
    have hne := hx q List.mem_cons_self
    refine ⟨⟨?_, ?_, ?_, ?_⟩, ?_, CH_eqx he (fun p hp => hx p (List.mem_cons_of_mem _ hp)) a3⟩
    · rw [he 6 (by decide) (by decide) _ hne]; exact b1
    · rw [he 7 (by decide) (by decide) _ hne]; exact b2
    · rw [he 8 (by decide) (by decide) _ hne]; exact b3
    · rw [he 9 (by decide) (by decide) _ hne, he 10 (by decide) (by decide) _ hne]; exact b4
    · unfold onC at a2 ⊢; rw [he 9 (by decide) (by decide) _ hne, he 10 (by decide) (by decide) _ hne]; exact a2
/-- the chain that is being made, its hole -/
def HB (s : CS) (g : LG) (rl : Nat → Nat) (k : Int32) (nx : Nat) (l : List (Nat × Nat)) (v : Int32) : Prop :=
  CH s g rl k l v ∧ s 19 0 = hdv l v ∧ (match l.getLast? with | none => s 20 0 = -1 | some q => s 20 0 = nI q.2 ∧ s 21 0 = bI (decide (gK g q.1 < k))) ∧ (l.map Prod.snd).Nodup ∧ (∀ q ∈ l, q.2 < nx ∧ q.2 < 160 ∧ s 11 q.2 = 0)
theorem HB_eqx {s s' : CS} {g : LG} {rl : Nat → Nat} {k : Int32} {nx nx' : Nat} {l : List (Nat × Nat)} {v : Int32} {x : Nat} (h : HB s g rl k nx l v) (he : eqx s s' x) (hx : ∀ q ∈ l, q.2 ≠ x) (h11 : s' 11 = s 11) (h19 : s' 19 = s 19) (h20 : s' 20 = s 20) (h21 : s' 21 = s 21) (hn : nx ≤ nx') : HB s' g rl k nx' l v := by
  obtain ⟨a1, a2, a3, a4, a5⟩ := h
  refine ⟨CH_eqx he hx a1, by rw [h19]; exact a2, by rw [h20, h21]; exact a3, a4, fun q hq => ?_⟩
  obtain ⟨b1, b2, b3⟩ := a5 q hq
  exact ⟨by omega, b2, by rw [h11]; exact b3⟩
theorem snd_ne {l0 : List (Nat × Nat)} {q : Nat × Nat} (h : ((l0 ++ [q]).map Prod.snd).Nodup) : ∀ p ∈ l0, p.2 ≠ q.2 := by
  intro p hp e
  rw [List.map_append, List.nodup_append] at h
  exact h.2.2 p.2 (List.mem_map_of_mem hp) q.2 (by simp) e
theorem CH_fill {s s' : CS} {g : LG} {rl : Nat → Nat} {k : Int32} {v v' : Int32} {a x : Nat} (he : eqx s s' x) (h6 : s' 6 x = s 6 x) (h7 : s' 7 x = s 7 x) (h8 : s' 8 x = s 8 x) (hoff : if gK g a < k then s' 9 x = s 9 x else s' 10 x = s 10 x) (hon : onC s' g k a x v') : ∀ {l : List (Nat × Nat)}, (∀ p ∈ l, p.2 ≠ x) → CH s g rl k (l ++ [(a, x)]) v → CH s' g rl k (l ++ [(a, x)]) v'
  | [], _, h => by
    obtain ⟨⟨b1, b2, b3, b4⟩, a2, -⟩ := h
    refine ⟨⟨by rw [h6]; exact b1, by rw [h7]; exact b2, by rw [h8]; exact b3, ?_⟩, hon, trivial⟩
    by_cases c : gK g a < k
    · simp only [if_pos c] at hoff b4 ⊢; rw [hoff]; exact b4
    · simp only [if_neg c] at hoff b4 ⊢; rw [hoff]; exact b4
  | q :: l, hx, h => by
    obtain ⟨⟨b1, b2, b3, b4⟩, a2, a3⟩ := h
    have hne := hx q List.mem_cons_self
    refine ⟨⟨?_, ?_, ?_, ?_⟩, ?_, CH_fill he h6 h7 h8 hoff hon (fun p hp => hx p (List.mem_cons_of_mem _ hp)) a3⟩
    · rw [he 6 (by decide) (by decide) _ hne]; exact b1
    · rw [he 7 (by decide) (by decide) _ hne]; exact b2
    · rw [he 8 (by decide) (by decide) _ hne]; exact b3
    · rw [he 9 (by decide) (by decide) _ hne, he 10 (by decide) (by decide) _ hne]; exact b4
    · have a2 : onC s g k q.1 q.2 (hdv (l ++ [(a, x)]) v) := a2
      show onC s' g k q.1 q.2 (hdv (l ++ [(a, x)]) v')
      rw [hdv_snoc] at a2 ⊢
      unfold onC at a2 ⊢; rw [he 9 (by decide) (by decide) _ hne, he 10 (by decide) (by decide) _ hne]; exact a2
theorem hang_spec {s : CS} {g : LG} {rl : Nat → Nat} {k : Int32} {nx : Nat} {l : List (Nat × Nat)} {v v' : Int32} (h : HB s g rl k nx l v) {post : CS → Prop} (hp : ∀ s', HB s' g rl k nx l v' → sam [9, 10, 19] s s' → (∀ c, 9 ≤ c → c ≤ 10 → ∀ r, (∀ q ∈ l, q.2 ≠ r) → s' c r = s c r) → post s') : wp_X3_hang v' s post := by
  obtain ⟨a1, a2, a3, a4, a5⟩ := id h
  unfold wp_X3_hang
  refine nmI.mk ?_
  by_cases hl : l = []
  · subst hl
    have h20 : s 20 0 = -1 := a3
    rw [h20]
    refine brN.mf (by decide) (stF.mk (hp _ ⟨trivial, by rw [cset_eq]; rfl, ?_, List.Pairwise.nil, fun q hq => (by cases hq)⟩ (sam.cs (by decide)) (fun c c1 c2 r _ => ?_)))
    · show cset s 19 (fun _ => v') 20 0 = -1
      rw [cset_ne _ _ (by decide)]; exact h20
    · rw [cset_ne _ _ (by omega)]
  · obtain ⟨l0, ⟨a, x⟩, rfl⟩ : ∃ l0 q, l = l0 ++ [q] := ⟨l.dropLast, l.getLast hl, (List.dropLast_concat_getLast hl).symm⟩
    rw [List.getLast?_concat] at a3
    obtain ⟨h20, h21⟩ := a3
    dsimp only at h20 h21
    have hx := a5 (a, x) (List.mem_append_right _ List.mem_cons_self)
    dsimp only at hx
    have hne := snd_ne a4
    dsimp only at hne
    rw [h20]
    refine brN.mt (nI_pos' (by omega)) (nmI.mk ?_)
    rw [h21]
    have fin : ∀ (j : Nat), (j = 9 ∧ ¬ gK g a < k) ∨ (j = 10 ∧ gK g a < k) → post (cset s j (upd (s j) x v')) := by
      intro j hj
      have hj' : j = 9 ∨ j = 10 := by rcases hj with q | q; exact Or.inl q.1; exact Or.inr q.1
      have e0 : ∀ c, c ≠ j → cset s j (upd (s j) x v') c = s c := fun c hc => cset_ne _ _ hc
      have he : eqx s (cset s j (upd (s j) x v')) x := by
        intro c c1 c2 r hr
        by_cases e : c = j
        · subst e; rw [cset_eq, upd_ap, if_neg hr]
        · rw [e0 c e]
      refine hp _ ⟨?_, ?_, ?_, a4, fun q hq => ?_⟩ ?_ (fun c c1 c2 r hr => ?_)
      · refine CH_fill he (by rw [e0 6 (by omega)]) (by rw [e0 7 (by omega)]) (by rw [e0 8 (by omega)]) ?_ ?_ hne a1
        · rcases hj with ⟨rfl, c⟩ | ⟨rfl, c⟩
          · rw [if_neg c, e0 10 (by omega)]
          · rw [if_pos c, e0 9 (by omega)]
        · unfold onC
          rcases hj with ⟨rfl, c⟩ | ⟨rfl, c⟩
          · rw [if_neg c, cset_eq, upd_ap, if_pos rfl]
          · rw [if_pos c, cset_eq, upd_ap, if_pos rfl]
      · rw [e0 19 (by omega), a2, hdv_snoc, hdv_snoc]
      · rw [List.getLast?_concat]
        dsimp only
        rw [e0 20 (by omega), e0 21 (by omega)]; exact ⟨h20, h21⟩
      · rw [e0 11 (by omega)]; exact a5 q hq
      · refine sam.cs ?_
        rcases hj' with e | e <;> rw [e] <;> decide
      · by_cases e : c = j
        · subst e; rw [cset_eq, upd_ap, if_neg (fun q => hr (a, x) (List.mem_append_right _ List.mem_cons_self) q.symm)]
        · rw [e0 c e]
    refine brN.mk (fun c => ?_) (fun c => ?_)
    · have c' : ¬ gK g a < k := by have := bI_0.mp c; simpa using this
      refine nmI.mk ?_
      refine wrA.mk x rfl hx.2.1 (by omega) (fin 9 (Or.inl ⟨rfl, c'⟩))
    · have c' : gK g a < k := by
        cases hd : decide (gK g a < k) with
        | true => exact of_decide_eq_true hd
        | false => rw [hd] at c; exact absurd rfl c
      refine nmI.mk ?_
      refine wrA.mk x rfl hx.2.1 (by omega) (fin 10 (Or.inr ⟨rfl, c'⟩))
/-- the row x is a whole copy of the id a -/
def cpd (s : CS) (g : LG) (rl : Nat → Nat) (a x : Nat) : Prop := s 6 x = gK g a ∧ s 7 x = gV g a ∧ s 8 x = gW g a ∧ s 9 x = mI rl (gL g a) ∧ s 10 x = mI rl (gR g a)
/-- live rows bear a mark -/
def lvM (s : CS) (rl : Nat → Nat) (S : Nat → Prop) : Prop := ∀ i, S i → s 11 (rl i) = 1
section CopyM
variable {s : CS} {g : LG} {rl : Nat → Nat} {S : Nat → Prop} {k : Int32} {fr nx : Nat} {l : List (Nat × Nat)} {v : Int32}
theorem copyM_spec (hr : repM s g rl S) (hW : WS s fr nx) (hfr : fr ≤ 60) (hnx : nx ≤ 160) (hL : lvM s rl S) {a : Nat} (ha : S a) (hb : HB s g rl k nx l v) {post : Int32 → CS → Prop}
    (hp : ∀ x s', nx ≤ x → x < 101 → s 11 x = 0 → WS s' (fr + 1) (x + 1) → repM s' g rl S → HB s' g rl k (x + 1) l v → cpd s' g rl a x → sam [6, 7, 8, 9, 10, 17, 18] s s' → eqx s s' x → post (nI x) s') : wp_X3_copy (nI (rl a)) s post := by
  obtain ⟨a0, ⟨p0, p1, p2, p3, p4, p5⟩, -⟩ := hr.1 a ha
  unfold wp_X3_copy
  refine rdA.mk (rl a) rfl p0 (by omega) ?_
  refine rdA.mk (rl a) rfl p0 (by omega) ?_
  refine rdA.mk (rl a) rfl p0 (by omega) ?_
  refine rdA.mk (rl a) rfl p0 (by omega) ?_
  refine rdA.mk (rl a) rfl p0 (by omega) ?_
  rw [p1, p2, p3, p4, p5]
  refine make_spec hW hfr hnx (fun x s' x1 x2 x3 x4 x5 => ?_)
  have hs := x5.2.2.2.2.2
  have he := x5.eqx
  have hx : ∀ i, S i → rl i ≠ x := fun i hi e => by have := hL i hi; rw [e, x3] at this; exact absurd this (by decide)
  refine hp x s' x1 x2 x3 x4 (repM_eqx hr he hx) (HB_eqx hb he (fun q hq => ?_) (hs.at 11) (hs.at 19) (hs.at 20) (hs.at 21) (by omega)) x5.row hs he
  have := (hb.2.2.2.2 q hq).1; omega
/-- a copy is hung and the hole moves to it -/
theorem holeAt_spec {a x : Nat} (hb : HB s g rl k nx l (nI x)) (hc : cpd s g rl a x) (hx : x < nx) (hx2 : x < 160) (h11 : s 11 x = 0) (hd : ∀ q ∈ l, q.2 ≠ x) {b : Int32} (hbs : b = bI (decide (gK g a < k))) {post : CS → Prop}
    (hp : ∀ s', HB s' g rl k nx (l ++ [(a, x)]) (if gK g a < k then mI rl (gR g a) else mI rl (gL g a)) → sam [20, 21] s s' → post s') : wp_X3_holeAt (nI x) b s post := by
  obtain ⟨a1, a2, a3, a4, a5⟩ := hb
  obtain ⟨c1, c2, c3, c4, c5⟩ := hc
  unfold wp_X3_holeAt
  refine stF.mk ⟨by rw [hbs]; exact bI_B _, stF.mk (hp _ ⟨?_, ?_, ?_, ?_, fun q hq => ?_⟩ ((sam.cs (by decide)).tr (sam.cs (by decide))))⟩
  · have he : eqx s (cset (cset s 20 (fun _ => nI x)) 21 (fun _ => b)) 1000 := by
      intro c c1 c2 r hr
      rw [cset_ne _ _ (by omega), cset_ne _ _ (by omega)]
    have e : ∀ c, c ≠ 20 → c ≠ 21 → cset (cset s 20 (fun _ => nI x)) 21 (fun _ => b) c = s c := fun c q1 q2 => by rw [cset_ne _ _ q2, cset_ne _ _ q1]
    refine CH_snoc (CH_eqx he (fun q hq => by have := (a5 q hq).2.1; omega) a1) ⟨?_, ?_, ?_, ?_⟩ ?_
    · rw [e 6 (by decide) (by decide)]; exact c1
    · rw [e 7 (by decide) (by decide)]; exact c2
    · rw [e 8 (by decide) (by decide)]; exact c3
    · rw [e 9 (by decide) (by decide), e 10 (by decide) (by decide)]
      split
      · exact c4
      · exact c5
    · unfold onC
      rw [e 9 (by decide) (by decide), e 10 (by decide) (by decide)]
      by_cases c : gK g a < k
      · rw [if_pos c, if_pos c]; exact c5
      · rw [if_neg c, if_neg c]; exact c4
  · rw [cset_ne _ _ (by decide), cset_ne _ _ (by decide), a2, hdv_snoc]
  · rw [List.getLast?_concat]
    dsimp only
    rw [cset_eq, cset_ne _ _ (by decide), cset_eq]
    exact ⟨rfl, hbs⟩
  · rw [List.map_append, List.nodup_append]
    refine ⟨a4, by simp, fun p hp q hq e => ?_⟩
    obtain ⟨z, z1, z2⟩ := List.mem_map.mp hp
    simp at hq
    exact hd z z1 (by rw [z2, e, hq])
  · rw [cset_ne _ _ (by decide), cset_ne _ _ (by decide)]
    rcases List.mem_append.mp hq with q1 | q1
    · exact a5 q q1
    · simp at q1; rw [q1]; exact ⟨hx, hx2, h11⟩
end CopyM
