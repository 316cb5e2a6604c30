/-! the class's join, drop and questions against the log -/
theorem i32_sub {x y : Int32} (h1 : -2147483648 ≤ x.toInt - y.toInt) (h2 : x.toInt - y.toInt < 2147483648) : (x - y).toInt = x.toInt - y.toInt := by
  rw [Int32.toInt_sub, Int.bmod_eq_of_le (by omega) (by omega)]
theorem i32_rng (x : Int32) : -2147483648 ≤ x.toInt ∧ x.toInt < 2147483648 := by
  have h1 := Int32.le_toInt x
  have h2 := Int32.toInt_lt x
  omega
/-- the node with z lesser ones, or 0 -/
def nth (g : LG) (i : Nat) (z : Int) : Nat := if 0 ≤ z ∧ z < (nd g i).length then (nd g i).getD z.toNat 0 else 0
theorem nth_0 (g : LG) (z : Int) : nth g 0 z = 0 := by
  unfold nth; rw [nd_0]; split
  · simp
  · rfl
theorem getD_mem {l : List Nat} {q : Nat} (h : q < l.length) : l.getD q 0 ∈ l := by
  rw [List.getD_eq_getElem?_getD, List.getElem?_eq_getElem h]; exact List.getElem_mem h
theorem nth_mem {g : LG} {i : Nat} {z : Int} : nth g i z = 0 ∨ nth g i z ∈ nd g i := by
  unfold nth; split
  · rename_i h; exact Or.inr (getD_mem (by omega))
  · exact Or.inl rfl
theorem nth_eq {g : LG} {n i : Nat} (hw : wfG g n) (h0 : 0 < i) (hi : i ≤ n) (z : Int) : nth g i z = if z = (nd g (gL g i)).length then i else if z < (nd g (gL g i)).length then nth g (gL g i) z else nth g (gR g i) (z - ((nd g (gL g i)).length + 1)) := by
  have hlen := nd_len hw h0 hi
  unfold nth
  rw [hlen, nd_eq hw h0 hi]
  generalize nd g (gL g i) = a at *
  generalize nd g (gR g i) = b at *
  by_cases c1 : z = a.length
  · rw [if_pos c1, if_pos (by omega), c1]; simp
  · rw [if_neg c1]
    by_cases c2 : z < a.length
    · rw [if_pos c2]
      by_cases c3 : 0 ≤ z
      · rw [if_pos (by omega), if_pos ⟨c3, c2⟩]
        simp [List.getElem?_append_left (show z.toNat < a.length by omega)]
      · rw [if_neg (by omega), if_neg (by omega)]
    · rw [if_neg c2]
      by_cases c3 : z < 1 + a.length + b.length
      · rw [if_pos (by omega), if_pos (by omega)]
        rw [List.getD_eq_getElem?_getD, List.getD_eq_getElem?_getD, List.getElem?_append_right (by omega)]
        have : z.toNat - a.length = (z - (a.length + 1)).toNat + 1 := by omega
        rw [this, List.getElem?_cons_succ]
      · rw [if_neg (by omega), if_neg (by omega)]
/-- the greatest key not greater than k -/
def flr (g : LG) (k : Int32) (best i : Nat) : Nat :=
  if h : 0 < i ∧ gL g i < i ∧ gR g i < i then (if k < gK g i then flr g k best (gL g i) else flr g k i (gR g i)) else best
termination_by i
decreasing_by
  · exact h.2.1
  · exact h.2.2
theorem flr_0 (g : LG) (k : Int32) (b : Nat) : flr g k b 0 = b := by rw [flr]; simp
theorem flr_eq {g : LG} {n i : Nat} (h : wfG g n) (h0 : 0 < i) (hi : i ≤ n) (k : Int32) (b : Nat) : flr g k b i = if k < gK g i then flr g k b (gL g i) else flr g k i (gR g i) := by
  obtain ⟨w1, w2, -⟩ := h i h0 hi
  rw [flr.eq_1 g k b i, dif_pos ⟨h0, w1, w2⟩]
theorem flr_mem {g : LG} {n : Nat} (hw : wfG g n) (k : Int32) : ∀ (i b : Nat), i ≤ n → flr g k b i = b ∨ flr g k b i ∈ nd g i := by
  intro i
  induction i using Nat.strongRecOn with
  | _ i ih =>
    intro b hi
    rcases Nat.eq_zero_or_pos i with h0 | h0
    · subst h0; exact Or.inl (flr_0 g k b)
    · obtain ⟨w1, w2, -⟩ := hw i h0 hi
      rw [flr_eq hw h0 hi, nd_eq hw h0 hi]
      split
      · rcases ih _ w1 b (by omega) with q | q
        · exact Or.inl q
        · exact Or.inr (List.mem_append_left _ q)
      · right
        rcases ih _ w2 i (by omega) with q | q
        · rw [q]; exact List.mem_append_right _ List.mem_cons_self
        · exact List.mem_append_right _ (List.mem_cons_of_mem _ q)
section OpsC2
variable {C V n : Nat} {s : CS} {g : LG} {pl : Nat → Nat} {S : Nat → Prop}
theorem nodeAt_spec (hr : repC C s g pl S) (hw : wfG g n) (hC : C ≤ 40) {i : Nat} (hi : i = 0 ∨ S i) (hin : i ≤ n) (hsz : (nd g i).length ≤ C) {z : Int32} {post : Int32 → CS → Prop} (hp : post (nI (pl (nth g i z.toInt))) s) : wp_X0_nodeAt C V (nI (pl i)) z s post := by
  have lp : ∀ (f i t : Nat) (z : Int32), t + (nd g i).length ≤ C → (nd g i).length < f → (i = 0 ∨ S i) → i ≤ n → post (nI (pl (nth g i z.toInt))) s → lp_X0_nodeAt_8 C V post f (nI (pl i)) z (nI t) s := by
    intro f
    induction f with
    | zero => intro i t z _ h; exact absurd h (Nat.not_lt_zero _)
    | succ f ih =>
      intro i t z hc hf hi hin hp
      unfold lp_X0_nodeAt_8
      refine nmI.mk (brN.mk (fun c => ?_) (fun c => ?_))
      · have hC' : C ≤ t := (nI_leI (by omega) (by omega)).mp c
        have e : i = 0 := by
          rcases hi with q | q
          · exact q
          · have := nd_len hw (hr.2.1 i q).1 hin; omega
        subst e; rw [nth_0] at hp; exact hp
      · refine brN.mk (fun c2 => ?_) (fun c2 => ?_)
        · have e : i = 0 := (hr.pos hi).mp ((nI_eq (a := pl i) (b := 0) (by have := hr.le hi; omega) (by decide)).mp c2)
          subst e; rw [nth_0] at hp; exact hp
        · have hne : i ≠ 0 := fun e => c2 (by rw [e, hr.1]; rfl)
          have hS : S i := hi.resolve_left hne
          obtain ⟨h0, ⟨⟨p1, p2⟩, -, ek, -, -, el, er, -⟩, -⟩ := hr.2.1 i hS
          obtain ⟨w1, w2, -⟩ := hw i h0 hin
          have hlen := nd_len hw h0 hin
          have hkl := (kid_ok hr hS).1
          have hplL := hr.le hkl
          have hcl := repC_cnt hr hkl
          have hcI : (nI (nd g (gL g i)).length).toInt = (nd g (gL g i)).length := nI_toInt (by omega)
          have hzr := i32_rng z
          rw [nth_eq hw h0 hin] at hp
          refine rdA.mk (pl i) rfl (by omega) (by omega) ?_
          rw [el]
          refine rdA.mk (pl (gL g i)) rfl (by omega) (by omega) ?_
          rw [hcl]
          refine brN.mk (fun c3 => ?_) (fun c3 => ?_)
          · rw [if_pos (by rw [c3, hcI])] at hp; exact hp
          · have c3' : z.toInt ≠ (nd g (gL g i)).length := fun e => c3 (Int32.toInt_inj.mp (by rw [hcI]; exact e))
            rw [if_neg c3'] at hp
            refine rdA.mk (pl i) rfl (by omega) (by omega) ?_
            rw [el]
            refine rdA.mk (pl (gL g i)) rfl (by omega) (by omega) ?_
            rw [hcl]
            refine brN.mk (fun c4 => ?_) (fun c4 => ?_)
            · have c4' : ((nd g (gL g i)).length : Int) ≤ z.toInt := by rw [Int32.le_iff_toInt_le, hcI] at c4; exact c4
              rw [if_neg (by omega)] at hp
              refine rdA.mk (pl i) rfl (by omega) (by omega) ?_
              rw [el]
              refine rdA.mk (pl (gL g i)) rfl (by omega) (by omega) (nmI.mk (nmI.mk ?_))
              rw [hcl, nI_1]
              refine rdA.mk (pl i) rfl (by omega) (by omega) (nmI.mk ?_)
              rw [er, nI_1]
              have hcI1 : (nI ((nd g (gL g i)).length + 1)).toInt = ((nd g (gL g i)).length : Int) + 1 := by rw [nI_toInt (by omega)]; omega
              refine ih _ (t + 1) _ (by omega) (by omega) (kid_ok hr hS).2 (by omega) ?_
              rw [i32_sub (by omega) (by omega), hcI1]; exact hp
            · have c4' : z.toInt < (nd g (gL g i)).length := by rw [Int32.le_iff_toInt_le, hcI] at c4; omega
              rw [if_pos c4'] at hp
              refine rdA.mk (pl i) rfl (by omega) (by omega) (nmI.mk ?_)
              rw [el, nI_1]
              exact ih _ (t + 1) z (by omega) (by omega) hkl (by omega) hp
  unfold wp_X0_nodeAt
  exact ⟨_, lp ((nd g i).length + 1) i 0 z (by omega) (Nat.lt_succ_self _) hi hin hp⟩
theorem floorNode_spec (hr : repC C s g pl S) (hw : wfG g n) (hC : C ≤ 40) {i : Nat} (hi : i = 0 ∨ S i) (hin : i ≤ n) (hsz : (nd g i).length ≤ C) {k : Int32} {post : Int32 → CS → Prop} (hp : post (nI (pl (flr g k 0 i))) s) : wp_X0_floorNode C V (nI (pl i)) k s post := by
  have lp : ∀ (f i b t : Nat), t + (nd g i).length ≤ C → (nd g i).length < f → (i = 0 ∨ S i) → i ≤ n → post (nI (pl (flr g k b i))) s → lp_X0_floorNode_8 C V post f k (nI (pl i)) (nI (pl b)) (nI t) s := by
    intro f
    induction f with
    | zero => intro i b t _ h; exact absurd h (Nat.not_lt_zero _)
    | succ f ih =>
      intro i b t hc hf hi hin hp
      unfold lp_X0_floorNode_8
      refine nmI.mk (brN.mk (fun c => ?_) (fun c => ?_))
      · have hC' : C ≤ t := (nI_leI (by omega) (by omega)).mp c
        have e : i = 0 := by
          rcases hi with q | q
          · exact q
          · have := nd_len hw (hr.2.1 i q).1 hin; omega
        subst e; rw [flr_0] at hp; exact hp
      · refine brN.mk (fun c2 => ?_) (fun c2 => ?_)
        · have e : i = 0 := (hr.pos hi).mp ((nI_eq (a := pl i) (b := 0) (by have := hr.le hi; omega) (by decide)).mp c2)
          subst e; rw [flr_0] at hp; exact hp
        · have hne : i ≠ 0 := fun e => c2 (by rw [e, hr.1]; rfl)
          have hS : S i := hi.resolve_left hne
          obtain ⟨h0, ⟨⟨p1, p2⟩, -, ek, -, -, el, er, -⟩, -⟩ := hr.2.1 i hS
          obtain ⟨w1, w2, -⟩ := hw i h0 hin
          have hlen := nd_len hw h0 hin
          rw [flr_eq hw h0 hin] at hp
          refine rdA.mk (pl i) rfl (by omega) (by omega) ?_
          rw [ek]
          refine brN.mk (fun c3 => ?_) (fun c3 => ?_)
          · rw [if_pos c3] at hp
            refine rdA.mk (pl i) rfl (by omega) (by omega) (nmI.mk ?_)
            rw [el, nI_1]
            exact ih _ b (t + 1) (by omega) (by omega) (kid_ok hr hS).1 (by omega) hp
          · rw [if_neg c3] at hp
            refine rdA.mk (pl i) rfl (by omega) (by omega) (nmI.mk ?_)
            rw [er, nI_1]
            exact ih _ i (t + 1) (by omega) (by omega) (kid_ok hr hS).2 (by omega) hp
  unfold wp_X0_floorNode
  have h0 : (0 : Int32) = nI (pl 0) := by rw [hr.1]; rfl
  refine ⟨(nd g i).length + 1, ?_⟩
  have := lp ((nd g i).length + 1) i 0 0 (by omega) (Nat.lt_succ_self _) hi hin hp
  rw [← h0] at this
  exact this
/-- the sum of the values at marked places with keys from low to high, below p -/
def smP (s : CS) (lo hi : Int32) : Nat → Int64
  | 0 => 0
  | p + 1 => smP s lo hi p + (if s 8 p = 0 ∨ s 0 p < lo ∨ hi < s 0 p then 0 else (s 1 p).toInt64)
theorem sumReached_spec (hC : C ≤ 40) (h8 : s 8 0 = 0) {lo hi : Int32} {post : Int64 → CS → Prop} (hp : post (smP s lo hi (C + 1)) s) : wp_X0_sumReached C V lo hi s post := by
  have lp : ∀ (f p : Nat), 1 ≤ p → p ≤ C + 1 → C + 1 < p + f → lp_X0_sumReached_5 C V post f lo hi (smP s lo hi p) (nI p) s := by
    intro f
    induction f with
    | zero => intro p h1 h2 h3; omega
    | succ f ih =>
      intro p h1 h2 h3
      unfold lp_X0_sumReached_5
      refine nmI.mk (brN.mk (fun c => ?_) (fun c => ?_))
      · have e : C < p := (nI_ltI (by omega) (by omega)).mp c
        have e : p = C + 1 := by omega
        subst e; exact hp
      · have hpC : p ≤ C := by
          rcases Nat.lt_or_ge C p with q | q
          · exact absurd (nI_lt q (by omega)) c
          · exact q
        have hst := ih (p + 1) (by omega) (by omega)
        rw [smP] at hst
        have go := fun (h : (s 8 p = 0 ∨ s 0 p < lo ∨ hi < s 0 p)) => (by have := hst (by omega); rw [if_pos h, Int64.add_zero] at this; exact this : lp_X0_sumReached_5 C V post f lo hi (smP s lo hi p) (nI (p + 1)) s)
        refine rdA.mk p rfl (by omega) (by omega) (brN.mk (fun c2 => nmI.mk ?_) (fun c2 => ?_))
        · rw [nI_1]; exact go (Or.inl c2)
        · refine rdA.mk p rfl (by omega) (by omega) (brN.mk (fun c3 => nmI.mk ?_) (fun c3 => ?_))
          · rw [nI_1]; exact go (Or.inr (Or.inl c3))
          · refine rdA.mk p rfl (by omega) (by omega) (brN.mk (fun c4 => nmI.mk ?_) (fun c4 => ?_))
            · rw [nI_1]; exact go (Or.inr (Or.inr c4))
            · refine rdA.mk p rfl (by omega) (by omega) (nmL.mk (nmL.mk (nmI.mk ?_)))
              rw [nI_1]
              have := hst (by omega)
              rw [if_neg (by simp [c2, c3, c4])] at this
              exact this
  unfold wp_X0_sumReached
  have := lp (C + 1) 1 (Nat.le_refl _) (by omega) (by omega)
  have e : smP s lo hi 1 = 0 := by simp [smP, h8]
  rw [e] at this
  exact ⟨_, this⟩
end OpsC2
