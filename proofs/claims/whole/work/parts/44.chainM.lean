/-! ways of the reference; chains of copies against the log -/
def goL (g : LG) (k : Int32) (e : Bool) (i : Nat) : List Nat :=
  if h : 0 < i ∧ gL g i < i ∧ gR g i < i then i :: (if e = true ∧ gK g i = k then [] else if gK g i < k then goL g k e (gR g i) else goL g k e (gL g i)) else []
termination_by i
decreasing_by
  · exact h.2.2
  · exact h.2.1
theorem goL_0 (g : LG) (k : Int32) (e : Bool) : goL g k e 0 = [] := by rw [goL]; simp
theorem goL_eq {g : LG} {n i : Nat} (h : wfG g n) (h0 : 0 < i) (hi : i ≤ n) (k : Int32) (e : Bool) : goL g k e i = i :: (if e = true ∧ gK g i = k then [] else if gK g i < k then goL g k e (gR g i) else goL g k e (gL g i)) := by
  obtain ⟨w1, w2, -⟩ := h i h0 hi
  rw [goL.eq_1 g k e i, dif_pos ⟨h0, w1, w2⟩]
theorem goL_mem {g : LG} {n : Nat} (hw : wfG g n) (k : Int32) (e : Bool) : ∀ (i : Nat), i ≤ n → ∀ a ∈ goL g k e i, a ∈ nd g i := by
  intro i
  induction i using Nat.strongRecOn with
  | _ i ih =>
    intro hi a ha
    rcases Nat.eq_zero_or_pos i with h0 | h0
    · subst h0; rw [goL_0] at ha; cases ha
    · obtain ⟨w1, w2, -⟩ := hw i h0 hi
      rw [goL_eq hw h0 hi] at ha
      rw [nd_eq hw h0 hi]
      rcases List.mem_cons.mp ha with q | q
      · rw [q]; exact List.mem_append_right _ List.mem_cons_self
      · split at q
        · cases q
        · split at q
          · exact List.mem_append_right _ (List.mem_cons_of_mem _ (ih _ w2 (by omega) a q))
          · exact List.mem_append_left _ (ih _ w1 (by omega) a q)
theorem goL_len {g : LG} {n : Nat} (hw : wfG g n) (k : Int32) (e : Bool) : ∀ (i : Nat), i ≤ n → (goL g k e i).length ≤ (nd g i).length := by
  intro i
  induction i using Nat.strongRecOn with
  | _ i ih =>
    intro hi
    rcases Nat.eq_zero_or_pos i with h0 | h0
    · subst h0; rw [goL_0]; simp
    · obtain ⟨w1, w2, -⟩ := hw i h0 hi
      rw [goL_eq hw h0 hi, List.length_cons]
      have hlen := nd_len hw h0 hi
      split
      · simp; omega
      · split
        · have := ih _ w2 (by omega); omega
        · have := ih _ w1 (by omega); omega
theorem goL_t {g : LG} {n : Nat} (hw : wfG g n) (k : Int32) : ∀ (i : Nat), i ≤ n → fnd g k i ≠ 0 → goL g k true i = way g k i ++ [fnd g k i] := by
  intro i
  induction i using Nat.strongRecOn with
  | _ i ih =>
    intro hi hf
    rcases Nat.eq_zero_or_pos i with h0 | h0
    · subst h0; rw [fnd_0] at hf; exact absurd rfl hf
    · obtain ⟨w1, w2, -⟩ := hw i h0 hi
      rw [fnd_eq hw h0 hi] at hf
      rw [goL_eq hw h0 hi, way_eq hw h0 hi, fnd_eq hw h0 hi]
      by_cases c : gK g i = k
      · rw [if_pos ⟨rfl, c⟩, if_pos c, if_pos c]; rfl
      · rw [if_neg (fun q => c q.2), if_neg c, if_neg c]
        rw [if_neg c] at hf
        by_cases c2 : gK g i < k
        · rw [if_pos c2] at hf
          rw [if_pos c2, if_pos c2, if_pos c2, ih _ w2 (by omega) hf]; rfl
        · rw [if_neg c2] at hf
          rw [if_neg c2, if_neg c2, if_neg c2, ih _ w1 (by omega) hf]; rfl
theorem goL_f {g : LG} {n : Nat} (hw : wfG g n) (k : Int32) : ∀ (i : Nat), i ≤ n → fnd g k i = 0 → goL g k false i = way g k i := by
  intro i
  induction i using Nat.strongRecOn with
  | _ i ih =>
    intro hi hf
    rcases Nat.eq_zero_or_pos i with h0 | h0
    · subst h0; rw [goL_0, way_0]
    · obtain ⟨w1, w2, -⟩ := hw i h0 hi
      rw [fnd_eq hw h0 hi] at hf
      rw [goL_eq hw h0 hi, way_eq hw h0 hi, if_neg (by simp)]
      by_cases c : gK g i = k
      · rw [if_pos c] at hf; omega
      · rw [if_neg c] at hf ⊢
        by_cases c2 : gK g i < k
        · rw [if_pos c2] at hf
          rw [if_pos c2, if_pos c2, ih _ w2 (by omega) hf]
        · rw [if_neg c2] at hf
          rw [if_neg c2, if_neg c2, ih _ w1 (by omega) hf]
theorem goL_l {g : LG} {n : Nat} (hw : wfG g n) (k : Int32) : ∀ (i : Nat), i ≤ n → (goL g k false i).filter (fun a => decide (gK g a < k)) = lsr g k i := by
  intro i
  induction i using Nat.strongRecOn with
  | _ i ih =>
    intro hi
    rcases Nat.eq_zero_or_pos i with h0 | h0
    · subst h0; rw [goL_0, lsr_0]; rfl
    · obtain ⟨w1, w2, -⟩ := hw i h0 hi
      rw [goL_eq hw h0 hi, lsr_eq hw h0 hi, if_neg (by simp)]
      by_cases c2 : gK g i < k
      · rw [if_pos c2, if_pos c2, List.filter_cons_of_pos (by simp [c2]), ih _ w2 (by omega)]
      · rw [if_neg c2, if_neg c2, List.filter_cons_of_neg (by simp [c2]), ih _ w1 (by omega)]
def wayM (s : CS) (rl : Nat → Nat) (ns : List Nat) : Prop := s 22 0 = nI ns.length ∧ ∀ j, j < ns.length → s 23 j = nI (rl (ns.getD j 0))
theorem wayM.sam {s s' : CS} {rl : Nat → Nat} {ns : List Nat} {J : List Nat} (h : wayM s rl ns) (hs : sam J s s') (h1 : 22 ∉ J) (h2 : 23 ∉ J) : wayM s' rl ns := by
  unfold wayM; rw [hs 22 h1, hs 23 h2]; exact h
section GoM
variable {n : Nat} {s : CS} {g : LG} {rl : Nat → Nat} {S : Nat → Prop}
theorem findM_spec (hr : repM s g rl S) (hw : wfG g n) {i : Nat} (hi : i = 0 ∨ S i) (hin : i ≤ n) {k : Int32} {post : Int32 → CS → Prop} (hp : post (mI rl (fnd g k i)) s) : wp_X3_find (mI rl i) k s post := by
  have lp : ∀ (f i : Nat), (nd g i).length < f → (i = 0 ∨ S i) → i ≤ n → post (mI rl (fnd g k i)) s → lp_X3_find_2 post f k (mI rl i) s := by
    intro f
    induction f with
    | zero => intro i h; exact absurd h (Nat.not_lt_zero _)
    | succ f ih =>
      intro i hf hi hin hp
      unfold lp_X3_find_2
      refine brN.mk (fun c => ?_) (fun c => ?_)
      · have e := (hr.neg hi).mp c
        subst e; rw [fnd_0] at hp; exact hp
      · have e : i ≠ 0 := fun q => c ((hr.neg hi).mpr q)
        have hS := hi.resolve_left e
        obtain ⟨i0, ⟨p0, p1, -, -, p4, p5⟩, -⟩ := hr.1 i hS
        obtain ⟨w1, w2, -⟩ := hw i i0 hin
        have hlen := nd_len hw i0 hin
        rw [fnd_eq hw i0 hin] at hp
        rw [mI_s rl e] at c ⊢
        refine rdA.mk (rl i) rfl p0 (by omega) ?_
        rw [p1]
        refine brN.mk (fun c2 => ?_) (fun c2 => ?_)
        · rw [if_pos c2, mI_s rl e] at hp; exact hp
        · rw [if_neg c2] at hp
          refine rdA.mk (rl i) rfl p0 (by omega) ?_
          rw [p1]
          refine brN.mk (fun c3 => ?_) (fun c3 => ?_)
          · rw [if_neg (i32_nlt.mpr c3)] at hp
            refine rdA.mk (rl i) rfl p0 (by omega) ?_
            rw [p4]; exact ih _ (by omega) (repM_kid hr hS).1 (by omega) hp
          · rw [if_pos (i32_nle.mp c3)] at hp
            refine rdA.mk (rl i) rfl p0 (by omega) ?_
            rw [p5]; exact ih _ (by omega) (repM_kid hr hS).2 (by omega) hp
  unfold wp_X3_find
  exact ⟨_, lp _ i (Nat.lt_succ_self _) hi hin hp⟩
theorem goM_spec (hr : repM s g rl S) (hw : wfG g n) {i : Nat} (hi : i = 0 ∨ S i) (hin : i ≤ n) (hsz : (nd g i).length ≤ 40) {k : Int32} {e : Bool} {post : CS → Prop} (hp : ∀ s', sam [22, 23] s s' → wayM s' rl (goL g k e i) → post s') : wp_X3_go (mI rl i) k (bI e) s post := by
  have lp : ∀ (f i : Nat) (acc : List Nat) (s1 : CS), (nd g i).length < f → (i = 0 ∨ S i) → i ≤ n → acc.length + (nd g i).length ≤ 40 → sam [22, 23] s s1 → wayM s1 rl acc → (∀ s', sam [22, 23] s s' → wayM s' rl (acc ++ goL g k e i) → post s') → lp_X3_go_8 post f k (bI e) (mI rl i) s1 := by
    intro f
    induction f with
    | zero => intro i acc s1 h; exact absurd h (Nat.not_lt_zero _)
    | succ f ih =>
      intro i acc s1 hf hi hin hc hs hy hp
      unfold lp_X3_go_8
      refine brN.mk (fun c => ?_) (fun c => ?_)
      · have e := (hr.neg hi).mp c
        subst e; exact hp s1 hs (by rw [goL_0, List.append_nil]; exact hy)
      · have ei : i ≠ 0 := fun q => c ((hr.neg hi).mpr q)
        have hS := hi.resolve_left ei
        obtain ⟨i0, ⟨p0, -⟩, -⟩ := hr.1 i hS
        obtain ⟨w1, w2, -⟩ := hw i i0 hin
        have hlen := nd_len hw i0 hin
        rw [goL_eq hw i0 hin] at hp
        rw [mI_s rl ei]
        refine nmI.mk ?_
        rw [hy.1]
        refine wrA.mk acc.length rfl (by omega) (by omega) (nmI.mk (nmI.mk ?_))
        rw [cset_ne _ _ (by decide), hy.1, nI_1]
        refine stF.mk ?_
        have hs2 : sam [22, 23] s (cset (cset s1 23 (upd (s1 23) acc.length (nI (rl i)))) 22 (fun _ => nI (acc.length + 1))) := (hs.tr (sam.cs (by decide))).tr (sam.cs (by decide))
        have hy2 : wayM (cset (cset s1 23 (upd (s1 23) acc.length (nI (rl i)))) 22 (fun _ => nI (acc.length + 1))) rl (acc ++ [i]) := by
          refine ⟨by rw [cset_eq]; simp, fun j hj => ?_⟩
          rw [cset_ne _ _ (by decide), cset_eq, upd_ap]
          rw [List.length_append, List.length_singleton] at hj
          by_cases e : j = acc.length
          · rw [if_pos e, e, getD_app_last]
          · rw [if_neg e, getD_app_lt acc i (by omega)]; exact hy.2 j (by omega)
        generalize cset (cset s1 23 (upd (s1 23) acc.length (nI (rl i)))) 22 (fun _ => nI (acc.length + 1)) = s2 at hs2 hy2 ⊢
        have hr2 := hr.sam hs2 (by decide)
        obtain ⟨-, ⟨-, p1, -, -, p4, p5⟩, -⟩ := hr2.1 i hS
        have hal : (acc ++ [i]).length = acc.length + 1 := by simp
        have goOn : (¬ (e = true ∧ gK g i = k)) → rdA (s2 6) 160 (nI (rl i)) (fun z10 => brN (k ≤ z10) (rdA (s2 9) 160 (nI (rl i)) (fun z12 => lp_X3_go_8 post f k (bI e) z12 s2)) (rdA (s2 10) 160 (nI (rl i)) (fun z13 => lp_X3_go_8 post f k (bI e) z13 s2))) := by
          intro hne
          rw [if_neg hne] at hp
          refine rdA.mk (rl i) rfl p0 (by omega) ?_
          rw [p1]
          refine brN.mk (fun c3 => ?_) (fun c3 => ?_)
          · rw [if_neg (i32_nlt.mpr c3)] at hp
            refine rdA.mk (rl i) rfl p0 (by omega) ?_
            rw [p4]
            exact ih _ (acc ++ [i]) s2 (by omega) (repM_kid hr hS).1 (by omega) (by omega) hs2 hy2 (fun s' a b => hp s' a (by simpa using b))
          · rw [if_pos (i32_nle.mp c3)] at hp
            refine rdA.mk (rl i) rfl p0 (by omega) ?_
            rw [p5]
            exact ih _ (acc ++ [i]) s2 (by omega) (repM_kid hr hS).2 (by omega) (by omega) hs2 hy2 (fun s' a b => hp s' a (by simpa using b))
        refine brN.mk (fun c2 => ?_) (fun c2 => ?_)
        · exact goOn (fun q => by rw [q.1] at c2; exact absurd c2 (by decide))
        · have et : e = true := by
            cases e with
            | true => rfl
            | false => exact absurd rfl c2
          refine rdA.mk (rl i) rfl p0 (by omega) ?_
          rw [p1]
          refine brN.mk (fun c3 => ?_) (fun c3 => goOn (fun q => c3 q.2))
          rw [if_pos ⟨et, c3⟩] at hp
          have := ih 0 (acc ++ [i]) s2 (by rw [nd_0]; simp; omega) (Or.inl rfl) (by omega) (by rw [nd_0]; simp; omega) hs2 hy2 (fun s' a b => hp s' a (by rw [goL_0, List.append_nil] at b; exact b))
          rw [mI_0] at this; exact this
  unfold wp_X3_go
  refine stF.mk ⟨_, lp _ i [] _ (Nat.lt_succ_self _) hi hin (by simpa using hsz) (sam.cs (by decide)) ⟨by rw [cset_eq]; rfl, fun j hj => absurd hj (Nat.not_lt_zero j)⟩ (fun s' a b => hp s' a (by simpa using b))⟩
end GoM
theorem repM_add {n : Nat} {s : CS} {g : LG} {rl : Nat → Nat} {S : Nat → Prop} (hr : repM s g rl S) (hSn : ∀ i, S i → i ≤ n) {r : Nat} (hr160 : r < 160) (hne : ∀ i, S i → rl i ≠ r) {l r' : Nat} (hl : l = 0 ∨ S l) (hrr : r' = 0 ∨ S r') {k v w : Int32} (h6 : s 6 r = k) (h7 : s 7 r = v) (h8 : s 8 r = w) (h9 : s 9 r = mI rl l) (h10 : s 10 r = mI rl r') :
    repM s (gadd g (n + 1) k v w l r') (upn rl (n + 1) r) (Sup S n (n + 1)) := by
  have ha := agr.add g n k v w l r'
  have hln : l ≤ n := by rcases hl with e | e; omega; exact hSn l e
  have hrn : r' ≤ n := by rcases hrr with e | e; omega; exact hSn r' e
  have em : ∀ i, i ≤ n → mI (upn rl (n + 1) r) i = mI rl i := by
    intro i hi; unfold mI; rw [upn_ne _ _ (by omega)]
  rw [← Sup_1]
  refine ⟨fun i hi => ?_, fun i j hi hj e => ?_⟩
  · rcases hi with q | q
    · have hin := hSn i q
      obtain ⟨i0, ⟨p0, p1, p2, p3, p4, p5⟩, il, ir⟩ := hr.1 i q
      obtain ⟨b1, b2, b3, b4, b5⟩ := ha i i0 hin
      have kl : gL g i ≤ n := by rcases (repM_kid hr q).1 with e | e; omega; exact hSn _ e
      have kr : gR g i ≤ n := by rcases (repM_kid hr q).2 with e | e; omega; exact hSn _ e
      refine ⟨i0, ?_, fun e => ?_, fun e => ?_⟩
      · unfold nodM
        rw [upn_ne _ _ (by omega), b1, b2, b3, b4, b5, em _ kl, em _ kr]
        exact ⟨p0, p1, p2, p3, p4, p5⟩
      · rw [b4] at e ⊢; exact Or.inl (il e)
      · rw [b5] at e ⊢; exact Or.inl (ir e)
    · subst q
      refine ⟨by omega, ?_, fun e => ?_, fun e => ?_⟩
      · unfold nodM
        rw [upn_eq, gK_add, gV_add, gW_add, gL_add, gR_add, upn_eq, upn_eq, upn_eq, upn_eq, upn_eq, em _ hln, em _ hrn]
        exact ⟨hr160, h6, h7, h8, h9, h10⟩
      · rw [gL_add, upn_eq] at e ⊢; exact Or.inl (hl.resolve_left e)
      · rw [gR_add, upn_eq] at e ⊢; exact Or.inl (hrr.resolve_left e)
  · rcases hi with hi | hi <;> rcases hj with hj | hj
    · rw [upn_ne _ _ (by have := hSn i hi; omega), upn_ne _ _ (by have := hSn j hj; omega)] at e; exact hr.2 i j hi hj e
    · rw [upn_ne _ _ (by have := hSn i hi; omega), hj, upn_eq] at e; exact absurd e (hne i hi)
    · have e2 : upn rl (n + 1) r j = rl j := upn_ne _ _ (by have := hSn j hj; omega)
      rw [e2, hi, upn_eq] at e; exact absurd e.symm (hne j hj)
    · rw [hi, hj]
theorem cpo_agr (k : Int32) : ∀ (is : List Nat) (g : LG) (n t : Nat), agr g (cpo k is g n t).1 n
  | [], g, n, _ => agr.rf g n
  | i :: is, g, n, t => by
    rw [cpo]
    exact (agr.add g n _ _ _ _ _).tr (cpo_agr k is _ (n + 1) (n + 1)) (by omega)
theorem cpo_snoc (k : Int32) (a : Nat) : ∀ (is : List Nat) (g : LG) (n t : Nat), cpo k (is ++ [a]) g n t = (gadd (cpo k is g n t).1 (n + is.length + 1) (gK (cpo k is g n t).1 a) (gV (cpo k is g n t).1 a) (gW (cpo k is g n t).1 a) (if gK (cpo k is g n t).1 a < k then gL (cpo k is g n t).1 a else (cpo k is g n t).2) (if gK (cpo k is g n t).1 a < k then (cpo k is g n t).2 else gR (cpo k is g n t).1 a), n + is.length + 1)
  | [], g, n, t => rfl
  | i :: is, g, n, t => by
    rw [List.cons_append, cpo, cpo, cpo_snoc k a is, List.length_cons]
    rw [show n + 1 + is.length + 1 = n + (is.length + 1) + 1 by omega]
theorem chain_rep {n : Nat} {s : CS} {g : LG} {rl : Nat → Nat} {S : Nat → Prop} (hr : repM s g rl S) (hSn : ∀ i, S i → i ≤ n) {k : Int32} {t : Nat} (ht : t = 0 ∨ S t) : ∀ (l : List (Nat × Nat)), (∀ q ∈ l, S q.1) → CH s g rl k l (mI rl t) → (l.map Prod.snd).Nodup → (∀ q ∈ l, q.2 < 160 ∧ ∀ i, S i → rl i ≠ q.2) →
    ∃ rl', repM s (cpo k (l.map Prod.fst).reverse g n t).1 rl' (Sup S n (n + l.length)) ∧ plx rl rl' n ∧ mI rl' (cpo k (l.map Prod.fst).reverse g n t).2 = hdv l (mI rl t) ∧ (∀ i, Sup S n (n + l.length) i → (S i ∧ rl' i = rl i) ∨ ∃ q ∈ l, rl' i = q.2) := by
  intro l
  induction l with
  | nil =>
    intro _ _ _ _
    refine ⟨rl, by simpa [cpo, Sup_rf] using hr, plx.rf _ _, rfl, fun i hi => ?_⟩
    rw [List.length_nil, Nat.add_zero, Sup_rf] at hi
    exact Or.inl ⟨hi, rfl⟩
  | cons q l ih =>
    obtain ⟨a, r⟩ := q
    intro hS hch hnd hq
    obtain ⟨⟨b1, b2, b3, b4⟩, c1, c2⟩ := hch
    dsimp only at b1 b2 b3 b4 c1
    rw [List.map_cons, List.nodup_cons] at hnd
    obtain ⟨rl', r1, r2, r3, r4⟩ := ih (fun p hp => hS p (List.mem_cons_of_mem _ hp)) c2 hnd.2 (fun p hp => hq p (List.mem_cons_of_mem _ hp))
    have hSa := hS (a, r) List.mem_cons_self
    dsimp only at hSa
    have han := hSn a hSa
    obtain ⟨a0, -, -⟩ := hr.1 a hSa
    have hag := cpo_agr k (l.map Prod.fst).reverse g n t
    obtain ⟨e1, e2, e3, e4, e5⟩ := hag a a0 han
    have hrow := hq (a, r) List.mem_cons_self
    dsimp only at hrow
    have hlen : ((l.map Prod.fst).reverse).length = l.length := by simp
    rw [List.map_cons, List.reverse_cons, cpo_snoc, hlen, e1, e2, e3, e4, e5]
    dsimp only
    have htop : (cpo k (l.map Prod.fst).reverse g n t).2 = 0 ∨ Sup S n (n + l.length) (cpo k (l.map Prod.fst).reverse g n t).2 := by
      rw [cpo_top]
      by_cases e : (l.map Prod.fst).reverse = []
      · rw [if_pos e]; exact ht.imp id Or.inl
      · rw [if_neg e, hlen]
        have : l ≠ [] := fun q => e (by rw [q]; rfl)
        have : 0 < l.length := List.length_pos_iff.mpr this
        exact Or.inr (Or.inr (by omega))
    have kids := repM_kid hr hSa
    have kln : gL g a ≤ n := by rcases kids.1 with e | e; omega; exact hSn _ e
    have krn : gR g a ≤ n := by rcases kids.2 with e | e; omega; exact hSn _ e
    have em : ∀ i, i ≤ n → mI rl' i = mI rl i := by intro i hi; unfold mI; rw [r2 i hi]
    have hSn' : ∀ i, Sup S n (n + l.length) i → i ≤ n + l.length := by
      rintro i (z | z)
      · have := hSn i z; omega
      · exact z.2
    have hne : ∀ i, Sup S n (n + l.length) i → rl' i ≠ r := by
      intro i hi e
      rcases r4 i hi with ⟨z1, z2⟩ | ⟨p, p1, p2⟩
      · rw [z2] at e; exact hrow.2 i z1 e
      · exact hnd.1 (by show r ∈ l.map Prod.snd; rw [← e, p2]; exact List.mem_map_of_mem p1)
    refine ⟨upn rl' (n + l.length + 1) r, ?_, fun i hi => ?_, ?_, fun i hi => ?_⟩
    · rw [List.length_cons, show n + (l.length + 1) = n + l.length + 1 by omega, ← Sup_tr S (Nat.le_add_right n l.length) (Nat.le_succ _)]
      refine repM_add r1 hSn' hrow.1 hne ?_ ?_ b1 b2 b3 ?_ ?_
      · split
        · exact kids.1.imp id Or.inl
        · exact htop
      · split
        · exact htop
        · exact kids.2.imp id Or.inl
      · unfold onC at c1
        by_cases c : gK g a < k
        · rw [if_pos c] at b4 ⊢; rw [em _ kln]; exact b4
        · rw [if_neg c] at c1 ⊢; rw [r3]; exact c1
      · unfold onC at c1
        by_cases c : gK g a < k
        · rw [if_pos c] at c1 ⊢; rw [r3]; exact c1
        · rw [if_neg c] at b4 ⊢; rw [em _ krn]; exact b4
    · rw [upn_ne _ _ (by omega)]; exact r2 i hi
    · rw [mI_s _ (by omega), upn_eq]; rfl
    · rw [List.length_cons, show n + (l.length + 1) = n + l.length + 1 by omega] at hi
      by_cases e : i = n + l.length + 1
      · exact Or.inr ⟨(a, r), List.mem_cons_self, by rw [e, upn_eq]⟩
      · rw [upn_ne _ _ e]
        have hi' : Sup S n (n + l.length) i := by
          rcases hi with z | z
          · exact Or.inl z
          · exact Or.inr (by omega)
        rcases r4 i hi' with z | ⟨p, p1, p2⟩
        · exact Or.inl z
        · exact Or.inr ⟨p, List.mem_cons_of_mem _ p1, p2⟩
