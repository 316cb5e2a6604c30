/-! fresh nodes in the class's store -/
theorem ctB_cong {f f' : Nat → Int32} : ∀ {m : Nat}, (∀ j, j < m → f j = f' j) → ctB f m = ctB f' m
  | 0, _ => rfl
  | m + 1, h => by rw [ctB, ctB, ctB_cong (fun j hj => h j (by omega)), h m (by omega)]
theorem ctB_le (f : Nat → Int32) : ∀ m, ctB f m ≤ m
  | 0 => Nat.le_refl _
  | m + 1 => by rw [ctB]; have := ctB_le f m; split <;> omega
theorem ctB_upd {f : Nat → Int32} {p : Nat} (hp : f p ≠ 1) : ∀ {m : Nat}, p < m → ctB (upd f p 1) m = ctB f m + 1
  | 0, h => absurd h (Nat.not_lt_zero _)
  | m + 1, h => by
    rw [ctB, ctB]
    by_cases e : p = m
    · subst e
      rw [upd_ap, if_pos rfl, if_pos rfl, if_neg hp, ctB_cong (f' := f) (fun j hj => by rw [upd_ap, if_neg (by omega)])]
    · have h2 : upd f p 1 m = f m := by rw [upd_ap, if_neg (fun q => e q.symm)]
      rw [ctB_upd hp (by omega), h2]; omega
theorem ctB_ge {f : Nat → Int32} : ∀ {p : Nat}, (∀ j, 0 < j → j < p → f j = 1) → p ≤ ctB f p + 1
  | 0, _ => by omega
  | p + 1, h => by
    rw [ctB]
    have := ctB_ge (f := f) (p := p) (fun j h0 hj => h j h0 (by omega))
    rcases Nat.eq_zero_or_pos p with e | e
    · subst e; omega
    · rw [if_pos (h p e (by omega))]; omega
theorem agr.nd {g g' : LG} {n i : Nat} (h : agr g g' n) (hi : i ≤ n) : nd g' i = nd g i := nd_agr h i hi
/-- children before parents -/
def acG (g : LG) (n : Nat) : Prop := ∀ i, 0 < i → i ≤ n → gL g i < i ∧ gR g i < i
theorem wfG.ac {g : LG} {n : Nat} (h : wfG g n) : acG g n := fun i h0 hi => ⟨(h i h0 hi).1, (h i h0 hi).2.1⟩
theorem acG.add {g : LG} {n : Nat} (h : acG g n) {k v w : Int32} {l r : Nat} (hl : l ≤ n) (hr : r ≤ n) : acG (gadd g (n + 1) k v w l r) (n + 1) := by
  intro i h0 hi
  by_cases e : i = n + 1
  · subst e; rw [gL_add, gR_add, upn_eq, upn_eq]; omega
  · rw [gL_add, gR_add, upn_ne _ _ e, upn_ne _ _ e]; exact h i h0 (by omega)
section FreshC
variable {C V n : Nat} {s : CS} {g : LG} {pl : Nat → Nat} {S : Nat → Prop}
theorem freePlace_spec (h0 : s 7 0 = 0) (hB : ∀ p, p ≤ C → isB (s 7 p)) (hC1 : 1 ≤ C) (hC : C ≤ 40) (hu : ctB (s 7) (C + 1) < C) {post : Int32 → CS → Prop} (hp : ∀ p, 1 ≤ p → p ≤ C → s 7 p = 0 → post (nI p) s) : wp_X0_freePlace C V s post := by
  have lp : ∀ (f p : Nat), 1 ≤ p → p ≤ C → (∀ j, 0 < j → j < p → s 7 j = 1) → C < p + f → lp_X0_freePlace_2 C V post f (nI p) s := by
    intro f
    induction f with
    | zero => intro p _ h _ h2; omega
    | succ f ih =>
      intro p h1 h2 hj hf
      unfold lp_X0_freePlace_2
      refine nmI.mk (brN.mk (fun c => ?_) (fun c => ?_))
      · have e : C ≤ p := (nI_leI (by omega) (by omega)).mp c
        have e : p = C := by omega
        subst e
        refine hp p h1 h2 ?_
        rcases hB p (Nat.le_refl _) with q | q
        · exact q
        · have h3 := ctB_ge hj
          rw [ctB, if_pos q] at hu
          omega
      · have e : p < C := by
          rcases Nat.lt_or_ge p C with q | q
          · exact q
          · exact absurd (nI_le q (by omega)) c
        refine rdA.mk p rfl (by omega) (by omega) (brN.mk (fun c2 => ?_) (fun c2 => ?_))
        · exact hp p h1 h2 c2
        · refine nmI.mk ?_
          rw [nI_1]
          refine ih (p + 1) (by omega) (by omega) (fun j hj0 hj1 => ?_) (by omega)
          by_cases e2 : j = p
          · rw [e2]; exact (hB p (by omega)).resolve_left c2
          · exact hj j hj0 (by omega)
  unfold wp_X0_freePlace
  exact ⟨C + 1, lp (C + 1) 1 (Nat.le_refl _) hC1 (fun j a b => by omega) (by omega)⟩
theorem repC_cnt (hr : repC C s g pl S) {i : Nat} (hi : i = 0 ∨ S i) : s 5 (pl i) = nI (nd g i).length := by
  rcases hi with e | e
  · subst e; rw [hr.1, hr.2.2.2.1, nd_0]; rfl
  · exact (hr.2.1 i e).2.1.2.2.2.2.2.2.2
theorem fresh_spec (hr : repC C s g pl S) (hw : acG g n) (hSn : ∀ i, S i → i ≤ n) (hC1 : 1 ≤ C) (hC : C ≤ 40) (hu : ctB (s 7) (C + 1) < C) {l r : Nat} (hl : l = 0 ∨ S l) (hrr : r = 0 ∨ S r) {k v w : Int32} {post : Int32 → CS → Prop}
    (hp : ∀ (p : Nat) (s' : CS), repC C s' (gadd g (n + 1) k v w l r) (upn pl (n + 1) p) (fun i => S i ∨ i = n + 1) → sam [0, 1, 2, 3, 4, 5, 6, 7] s s' → ctB (s' 7) (C + 1) = ctB (s 7) (C + 1) + 1 → post (nI (upn pl (n + 1) p (n + 1))) s') :
    wp_X0_fresh C V k v w (nI (pl l)) (nI (pl r)) s post := by
  have hln : l ≤ n := by rcases hl with e | e; omega; exact hSn l e
  have hrn : r ≤ n := by rcases hrr with e | e; omega; exact hSn r e
  have hl0 := hr.le hl
  have hr0 := hr.le hrr
  have hcl := repC_cnt hr hl
  have hcr := repC_cnt hr hrr
  obtain ⟨h1, h2, h3, h4, h5, h6, h7⟩ := id hr
  unfold wp_X0_fresh
  refine freePlace_spec h5 h6 hC1 hC hu (fun p hp1 hpC hpt => ?_)
  have hne : ∀ i, (i = 0 ∨ S i) → pl i ≠ p := by
    intro i hi e
    rcases hi with q | q
    · rw [q, h1] at e; omega
    · have := (h2 i q).2.1.2.1; rw [e, hpt] at this; exact absurd this (by decide)
  refine wrZ.mk p rfl (by omega) (by omega) isB_1 (nmI.mk (nmI.mk (stF.mk ?_)))
  refine wrA.mk p rfl (by omega) (by omega) ?_
  refine wrA.mk p rfl (by omega) (by omega) ?_
  refine wrA.mk p rfl (by omega) (by omega) ?_
  refine wrA.mk p rfl (by omega) (by omega) ?_
  refine wrA.mk p rfl (by omega) (by omega) ?_
  refine rdA.mk (pl l) rfl (by omega) (by omega) (nmI.mk ?_)
  refine rdA.mk (pl r) rfl (by omega) (by omega) (nmI.mk ?_)
  refine wrA.mk p rfl (by omega) (by omega) ?_
  have hpp := hp p
  rw [upn_eq] at hpp
  refine hpp _ ?_ ?_ ?_
  · have ha := agr.add g n k v w l r
    have e1 : ∀ i, i ≤ n → upn pl (n + 1) p i = pl i := fun i hi => upn_ne _ _ (by omega)
    have hnd : nd (gadd g (n + 1) k v w l r) (n + 1) = nd g l ++ (n + 1) :: nd g r := by
      have a1 : gL (gadd g (n + 1) k v w l r) (n + 1) = l := by rw [gL_add, upn_eq]
      have a2 : gR (gadd g (n + 1) k v w l r) (n + 1) = r := by rw [gR_add, upn_eq]
      rw [nd.eq_1, dif_pos ⟨by omega, by omega, by omega⟩, a1, a2, ha.nd hln, ha.nd hrn]
    refine ⟨by rw [e1 0 (by omega)]; exact h1, fun i hi => ?_, fun i j hi hj e => ?_, ?_, ?_, fun q hq => ?_, ?_⟩
    · rcases hi with q | q
      · have hin := hSn i q
        obtain ⟨i0, ⟨p1, p2, p3, p4, p5, p6, p7, p8⟩, il, ir⟩ := h2 i q
        obtain ⟨b1, b2, b3, b4, b5⟩ := ha i i0 hin
        obtain ⟨w1, w2⟩ := hw i i0 hin
        refine ⟨i0, ?_, fun e => ?_, fun e => ?_⟩
        · unfold nodC
          rw [e1 i hin, b1, b2, b3, b4, b5, e1 _ (by omega), e1 _ (by omega), ha.nd hin]
          have := hne i (Or.inr q)
          simp [cset_ap, upd_ap, this, p1, p2, p3, p4, p5, p6, p7, p8]
        · rw [b4] at e ⊢; exact Or.inl (il e)
        · rw [b5] at e ⊢; exact Or.inl (ir e)
      · subst q
        refine ⟨by omega, ?_, fun e => ?_, fun e => ?_⟩
        · unfold nodC
          rw [upn_eq, gL_add, gR_add, gK_add, gV_add, gW_add, upn_eq, upn_eq, upn_eq, upn_eq, upn_eq, e1 l hln, e1 r hrn, hnd]
          refine ⟨⟨hp1, hpC⟩, by simp [cset_ap, upd_ap], by simp [cset_ap, upd_ap], by simp [cset_ap, upd_ap], by simp [cset_ap, upd_ap], by simp [cset_ap, upd_ap], by simp [cset_ap, upd_ap], ?_⟩
          simp [cset_ap, upd_ap]
          rw [hcl, hcr, show (1 : Int32) = nI 1 from rfl, nI_add, nI_add]
          congr 1
          omega
        · rw [gL_add, upn_eq] at e ⊢; exact Or.inl (hl.resolve_left e)
        · rw [gR_add, upn_eq] at e ⊢; exact Or.inl (hrr.resolve_left e)
    · rcases hi with hi | hi <;> rcases hj with hj | hj
      · rw [e1 i (hSn i hi), e1 j (hSn j hj)] at e; exact h3 i j hi hj e
      · rw [e1 i (hSn i hi), hj, upn_eq] at e; exact absurd e (hne i (Or.inr hi))
      · rw [e1 j (hSn j hj), hi, upn_eq] at e; exact absurd e.symm (hne j (Or.inr hj))
      · rw [hi, hj]
    · have : (0 : Nat) ≠ p := by omega
      simp [cset_ap, upd_ap, h4, this]
    · have : (0 : Nat) ≠ p := by omega
      simp [cset_ap, upd_ap, h5, this]
    · by_cases e : q = p
      · simp [cset_ap, upd_ap, e]; exact isB_1
      · simp [cset_ap, upd_ap, e]; exact h6 q hq
    · simp [cset_ap]
      rw [ctB_upd (by rw [hpt]; decide) (by omega), h7, nI_1]
  · intro j hj
    simp at hj
    obtain ⟨j0, j1, j2, j3, j4, j5, j6, j7⟩ := hj
    simp [cset_ap, j0, j1, j2, j3, j4, j5, j6, j7]
  · simp [cset_ap]
    rw [ctB_upd (by rw [hpt]; decide) (by omega)]
theorem copy_spec (hr : repC C s g pl S) (hw : acG g n) (hSn : ∀ i, S i → i ≤ n) (hC1 : 1 ≤ C) (hC : C ≤ 40) (hu : ctB (s 7) (C + 1) < C) {i l r : Nat} (hi : S i) (hl : l = 0 ∨ S l) (hrr : r = 0 ∨ S r) {post : Int32 → CS → Prop}
    (hp : ∀ (p : Nat) (s' : CS), repC C s' (gadd g (n + 1) (gK g i) (gV g i) (gW g i) l r) (upn pl (n + 1) p) (fun i => S i ∨ i = n + 1) → sam [0, 1, 2, 3, 4, 5, 6, 7] s s' → ctB (s' 7) (C + 1) = ctB (s 7) (C + 1) + 1 → post (nI (upn pl (n + 1) p (n + 1))) s') :
    wp_X0_copy C V (nI (pl i)) (nI (pl l)) (nI (pl r)) s post := by
  obtain ⟨i0, ⟨⟨p1, p1'⟩, p2, p3, p4, p5, p6, p7, p8⟩, -⟩ := hr.2.1 i hi
  unfold wp_X0_copy
  refine rdA.mk (pl i) rfl (by omega) (by omega) ?_
  refine rdA.mk (pl i) rfl (by omega) (by omega) ?_
  refine rdA.mk (pl i) rfl (by omega) (by omega) ?_
  rw [p3, p4, p5]
  exact fresh_spec hr hw hSn hC1 hC hu hl hrr hp
end FreshC
