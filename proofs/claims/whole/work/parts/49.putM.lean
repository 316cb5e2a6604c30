/-! the reference's put -/
theorem wgt_eq (z : Int32) : z >>> (16 &&& 31) &&& 15 = wgt z := by
  have h31 : ((16 : Int32) &&& 31) = 16 := by decide
  unfold wgt
  rw [h31, pk_and _ (m := 15) 4 (by decide), pk_and _ (m := 15) 4 (by decide)]
  congr 1
  have h1 := pk_shr z 16 16 (by decide)
  have h2 := pk_ushr z 16 16 (by decide)
  rw [h2]
  rw [Int.shiftRight_eq_div_pow] at h1
  have hz : z.toInt = z.toBitVec.toInt := rfl
  have hs : (z >>> 16).toInt = (z >>> 16).toBitVec.toInt := rfl
  rw [hz, hs, BitVec.toInt_eq_toNat_cond, BitVec.toInt_eq_toNat_cond] at h1
  have b1 := z.toBitVec.isLt
  have b2 := (z >>> 16).toBitVec.isLt
  generalize z.toBitVec.toNat = N at h1 b1 ⊢
  generalize (z >>> 16).toBitVec.toNat = M at h1 b2 ⊢
  split at h1 <;> split at h1 <;> omega
theorem cset_same (s : CS) (j : Nat) : cset s j (s j) = s := by
  funext i; rw [cset_ap]; split
  · rename_i h; rw [h]
  · rfl
theorem upd_same (f : Nat → Int32) (x : Nat) : upd f x (f x) = f := by
  funext i; rw [upd_ap]; split
  · rename_i h; rw [h]
  · rfl
theorem CH_agr {s : CS} {g g' : LG} {rl rl' : Nat → Nat} {k : Int32} {v : Int32} {n : Nat} (ha : agr g g' n) (hx : plx rl rl' n) (hc : acG g n) : ∀ {l : List (Nat × Nat)}, (∀ q ∈ l, 0 < q.1 ∧ q.1 ≤ n) → CH s g rl k l v → CH s g' rl' k l v
  | [], _, _ => trivial
  | q :: l, hl, h => by
    obtain ⟨⟨b1, b2, b3, b4⟩, a2, a3⟩ := h
    obtain ⟨q0, q1⟩ := hl q List.mem_cons_self
    obtain ⟨e1, e2, e3, e4, e5⟩ := ha q.1 q0 q1
    obtain ⟨w1, w2⟩ := hc q.1 q0 q1
    have m1 : mI rl' (gL g q.1) = mI rl (gL g q.1) := by unfold mI; rw [hx _ (by omega)]
    have m2 : mI rl' (gR g q.1) = mI rl (gR g q.1) := by unfold mI; rw [hx _ (by omega)]
    refine ⟨⟨by rw [e1]; exact b1, by rw [e2]; exact b2, by rw [e3]; exact b3, ?_⟩, ?_, CH_agr ha hx hc (fun p hp => hl p (List.mem_cons_of_mem _ hp)) a3⟩
    · rw [e1, e4, e5, m1, m2]; exact b4
    · unfold onC at a2 ⊢; rw [e1]; exact a2
/-- copies of a way that go below a new node: log, first with a lesser key, first with a greater one (top first) -/
def pl2 (k : Int32) (g : LG) (n : Nat) : List Nat → LG × Nat × Nat
  | [] => (g, 0, 0)
  | b :: bs => if gK g b < k then (gadd (pl2 k g n bs).1 (n + bs.length + 1) (gK g b) (gV g b) (gW g b) (gL g b) (pl2 k g n bs).2.1, n + bs.length + 1, (pl2 k g n bs).2.2)
      else (gadd (pl2 k g n bs).1 (n + bs.length + 1) (gK g b) (gV g b) (gW g b) (pl2 k g n bs).2.2 (gR g b), (pl2 k g n bs).2.1, n + bs.length + 1)
theorem pl2_agr (k : Int32) (g : LG) (n : Nat) : ∀ (bs : List Nat), agr g (pl2 k g n bs).1 n
  | [] => agr.rf g n
  | b :: bs => by
    rw [pl2]
    split
    · exact (pl2_agr k g n bs).tr (agr.add _ (n + bs.length) _ _ _ _ _) (by omega)
    · exact (pl2_agr k g n bs).tr (agr.add _ (n + bs.length) _ _ _ _ _) (by omega)
theorem pl2_le (k : Int32) (g : LG) (n : Nat) : ∀ (bs : List Nat), ((pl2 k g n bs).2.1 = 0 ∨ (n < (pl2 k g n bs).2.1 ∧ (pl2 k g n bs).2.1 ≤ n + bs.length)) ∧ ((pl2 k g n bs).2.2 = 0 ∨ (n < (pl2 k g n bs).2.2 ∧ (pl2 k g n bs).2.2 ≤ n + bs.length))
  | [] => ⟨Or.inl rfl, Or.inl rfl⟩
  | b :: bs => by
    have ih := pl2_le k g n bs
    rw [pl2, List.length_cons]
    split
    · exact ⟨Or.inr (by dsimp only; omega), ih.2.imp id (fun q => by dsimp only; omega)⟩
    · exact ⟨ih.1.imp id (fun q => by dsimp only; omega), Or.inr (by dsimp only; omega)⟩
theorem pln_pl2 (k w : Int32) (g : LG) (n : Nat) : ∀ (bs rest : List Nat), (∀ b ∈ bs, (0 < b ∧ b ≤ n) ∧ ¬ abv (gW g b) (gK g b) w k = true) → pln k w (bs.reverse ++ rest) g n 0 0 = pln k w rest (pl2 k g n bs).1 (n + bs.length) (pl2 k g n bs).2.1 (pl2 k g n bs).2.2
  | [], rest, _ => rfl
  | b :: bs, rest, h => by
    obtain ⟨⟨b0, bn⟩, hb⟩ := h b List.mem_cons_self
    rw [List.reverse_cons, List.append_assoc, List.singleton_append, pln_pl2 k w g n bs (b :: rest) (fun c hc => h c (List.mem_cons_of_mem _ hc)), pln]
    obtain ⟨e1, e2, e3, e4, e5⟩ := pl2_agr k g n bs b b0 bn
    rw [e1, e2, e3, e4, e5, if_neg hb, pl2, List.length_cons]
    by_cases c : gK g b < k
    · rw [if_pos c, if_pos c]; rfl
    · rw [if_neg c, if_neg c]; rfl
theorem copyM0_spec {s : CS} {g : LG} {rl : Nat → Nat} {S : Nat → Prop} {fr nx : Nat} (hr : repM s g rl S) (hW : WS s fr nx) (hfr : fr ≤ 60) (hnx : nx ≤ 160) (hL : lvM s rl S) {a : Nat} (ha : S a) {post : Int32 → CS → Prop}
    (hp : ∀ x s', nx ≤ x → x < 101 → s 11 x = 0 → WS s' (fr + 1) (x + 1) → repM s' g rl S → cpd s' g rl a x → sam [6, 7, 8, 9, 10, 17, 18] s s' → eqx s s' x → post (nI x) s') : wp_X3_copy (nI (rl a)) s post := by
  obtain ⟨a0, ⟨p0, p1, p2, p3, p4, p5⟩, -⟩ := hr.1 a ha
  unfold wp_X3_copy
  refine rdA.mk (rl a) rfl p0 (by omega) ?_
  refine rdA.mk (rl a) rfl p0 (by omega) ?_
  refine rdA.mk (rl a) rfl p0 (by omega) ?_
  refine rdA.mk (rl a) rfl p0 (by omega) ?_
  refine rdA.mk (rl a) rfl p0 (by omega) ?_
  rw [p1, p2, p3, p4, p5]
  refine make_spec hW hfr hnx (fun x s' x1 x2 x3 x4 x5 => ?_)
  have hx : ∀ i, S i → rl i ≠ x := fun i hi e => by have := hL i hi; rw [e, x3] at this; exact absurd this (by decide)
  exact hp x s' x1 x2 x3 x4 (repM_eqx hr x5.eqx hx) x5.row x5.2.2.2.2.2 x5.eqx
section PutM
variable {C V n : Nat} {s : CS} {g : LG} {rl : Nat → Nat} {lv : Nat → Bool} {rt : Nat → Nat} {sd sw : Int32} {us : Nat} {S : Nat → Prop}
/-- the copies below the new node, from the state where idx of the way are done; (lc, lr), (mc, mr): where the next lesser and the next greater one are to hang -/
theorem belowN (hSn : ∀ i, S i → i ≤ n) {k : Int32} {x0 : Nat} {ws : List Nat} {post : CS → Prop} :
    ∀ (bs : List Nat) (f idx fr nx : Nat) (le mo : Int32) (lc lr mc mr : Nat) (s : CS), bs.length < f → idx + bs.length = ws.length → (∀ j, j < bs.length → ws.getD (idx + j) 0 = bs.getD j 0) → ws.length ≤ 60 → wayM s rl ws → repM s g rl S → lvM s rl S → WS s fr nx → nx ≤ 160 → fr + bs.length ≤ 60 → (∀ b ∈ bs, S b) →
      x0 < nx → lr < nx → mr < nx → s 11 lr = 0 → s 11 mr = 0 → ((le = -1 ∧ lc = 9 ∧ lr = x0) ∨ (le = nI lr ∧ lc = 10)) → ((mo = -1 ∧ mc = 10 ∧ mr = x0) ∨ (mo = nI mr ∧ mc = 9)) → (lc, lr) ≠ (mc, mr) → lr < 160 → mr < 160 → x0 < 160 → s lc lr = -1 → s mc mr = -1 →
      (∀ (s' : CS) (rl' : Nat → Nat), repM s' (pl2 k g n bs).1 rl' (Sup S n (n + bs.length)) → plx rl rl' n → s' lc lr = mI rl' (pl2 k g n bs).2.1 → s' mc mr = mI rl' (pl2 k g n bs).2.2 → (∀ c, 6 ≤ c → c ≤ 10 → ∀ r, r < nx → (c, r) ≠ (lc, lr) → (c, r) ≠ (mc, mr) → s' c r = s c r) → sam [6, 7, 8, 9, 10, 17, 18] s s' → (∀ i, Sup S n (n + bs.length) i → (S i ∧ rl' i = rl i) ∨ nx ≤ rl' i) → post s') →
      lp_X3_putNew_119 post f k (nI x0) (nI idx) le mo s := by
  intro bs
  induction bs with
  | nil =>
    intro f idx fr nx le mo lc lr mc mr s hf hid _ hwl hy hr hL hW hnx hfr _ hx0 hlr hmr hl11 hm11 hle hmo hne h1 h2 h3 hsl hsm hp
    obtain ⟨f, rfl⟩ : ∃ q, f = q + 1 := ⟨f - 1, by simp at hf; omega⟩
    unfold lp_X3_putNew_119
    refine nmI.mk (brN.mt ?_ (hp s rl ?_ (plx.rf _ _) ?_ ?_ (fun _ _ _ _ _ _ _ => rfl) sam.rf (fun i hi => ?_)))
    · rw [hy.1]; simp at hid; rw [hid]; exact nI_le (Nat.le_refl _) (by omega)
    · simpa [pl2, Sup_rf] using hr
    · rw [hsl]; simp [pl2, mI_0]
    · rw [hsm]; simp [pl2, mI_0]
    · rw [List.length_nil, Nat.add_zero, Sup_rf] at hi; exact Or.inl ⟨hi, rfl⟩
  | cons b bs ih =>
    intro f idx fr nx le mo lc lr mc mr s hf hid hws hwl hy hr hL hW hnx hfr hS hx0 hlr hmr hl11 hm11 hle hmo hne h1 h2 h3 hsl hsm hp
    obtain ⟨f, rfl⟩ : ∃ q, f = q + 1 := ⟨f - 1, by simp at hf; omega⟩
    rw [List.length_cons] at hf hid hfr
    have hSb := hS b List.mem_cons_self
    have hbn := hSn b hSb
    obtain ⟨b0, ⟨r0, -⟩, -⟩ := hr.1 b hSb
    have hcl : lc = 9 ∨ lc = 10 := by rcases hle with ⟨-, q, -⟩ | ⟨-, q⟩ <;> omega
    have hcm : mc = 9 ∨ mc = 10 := by rcases hmo with ⟨-, q, -⟩ | ⟨-, q⟩ <;> omega
    have hlrl : ∀ i, S i → rl i ≠ lr := fun i hi e => by have := hL i hi; rw [e, hl11] at this; exact absurd this (by decide)
    have hmrl : ∀ i, S i → rl i ≠ mr := fun i hi e => by have := hL i hi; rw [e, hm11] at this; exact absurd this (by decide)
    unfold lp_X3_putNew_119
    refine nmI.mk (brN.mf ?_ ?_)
    · rw [hy.1]; intro c; exact absurd ((nI_leI (by omega) (by omega)).mp c) (by omega)
    refine rdA.mk idx rfl (by omega) (by omega) ?_
    have hwb : ws.getD idx 0 = b := by have := hws 0 (by simp); simpa using this
    rw [hy.2 idx (by omega), hwb]
    refine copyM0_spec hr hW (by omega) hnx hL hSb (fun x s1 x1 x2 x3 x4 x5 x7 x8 x9 => ?_)
    obtain ⟨c6, c7, c8, c9, c10⟩ := x7
    have hL1 : lvM s1 rl S := fun i hi => by rw [x8.at 11]; exact hL i hi
    have hsl1 : s1 lc lr = -1 := by rw [x9 lc (by omega) (by omega) lr (by omega)]; exact hsl
    have hsm1 : s1 mc mr = -1 := by rw [x9 mc (by omega) (by omega) mr (by omega)]; exact hsm
    have hxrl : ∀ i, S i → rl i ≠ x := fun i hi e => by have := hL i hi; rw [e, x3] at this; exact absurd this (by decide)
    have kids := repM_kid hr hSb
    have kln : gL g b ≤ n := by rcases kids.1 with e | e; omega; exact hSn _ e
    have krn : gR g b ≤ n := by rcases kids.2 with e | e; omega; exact hSn _ e
    have hpl := pl2_le k g n bs
    have hSn' : ∀ i, Sup S n (n + bs.length) i → i ≤ n + bs.length := by
      rintro i (z | z)
      · have := hSn i z; omega
      · exact z.2
    have hws' : ∀ j, j < bs.length → ws.getD (idx + 1 + j) 0 = bs.getD j 0 := by
      intro j hj
      have := hws (j + 1) (by simp; omega)
      rw [List.getD_cons_succ] at this
      rw [← this]; congr 1; omega
    refine rdA.mk x rfl (by omega) (by omega) ?_
    rw [c6]
    refine brN.mk (fun c => ?_) (fun c => ?_)
    · have ck : ¬ gK g b < k := i32_nlt.mpr c
      rw [pl2, if_neg ck] at hp
      dsimp only at hp
      have fin : lp_X3_putNew_119 post f k (nI x0) (nI (idx + 1)) le (nI x) (cset (cset s1 mc (upd (s1 mc) mr (nI x))) 9 (upd (cset s1 mc (upd (s1 mc) mr (nI x)) 9) x (-1))) := by
        have t3 : ∀ c, 6 ≤ c → c ≤ 10 → ∀ r, (c, r) ≠ (mc, mr) → (c, r) ≠ (9, x) → cset (cset s1 mc (upd (s1 mc) mr (nI x))) 9 (upd (cset s1 mc (upd (s1 mc) mr (nI x)) 9) x (-1)) c r = s1 c r := by
          intro c q1 q2 r q3 q4
          rw [cset_ap]
          by_cases e : c = 9
          · rw [if_pos e, upd_ap, if_neg (fun q => q4 (by rw [e, q])), cset_ap]
            by_cases e2 : 9 = mc
            · rw [if_pos e2, upd_ap, if_neg (fun q => q3 (by rw [e, q, e2])), e, e2]
            · rw [if_neg e2, e]
          · rw [if_neg e, cset_ap]
            by_cases e2 : c = mc
            · rw [if_pos e2, upd_ap, if_neg (fun q => q3 (by rw [e2, q])), e2]
            · rw [if_neg e2]
        have t3x : cset (cset s1 mc (upd (s1 mc) mr (nI x))) 9 (upd (cset s1 mc (upd (s1 mc) mr (nI x)) 9) x (-1)) 9 x = -1 := by rw [cset_eq, upd_ap, if_pos rfl]
        have t3s : cset (cset s1 mc (upd (s1 mc) mr (nI x))) 9 (upd (cset s1 mc (upd (s1 mc) mr (nI x)) 9) x (-1)) mc mr = nI x := by
          rw [cset_ap]
          by_cases e : mc = 9
          · rw [if_pos e, upd_ap, if_neg (by omega), ← e, cset_eq, upd_ap, if_pos rfl]
          · rw [if_neg e, cset_eq, upd_ap, if_pos rfl]
        have hs3 : sam [6, 7, 8, 9, 10, 17, 18] s1 (cset (cset s1 mc (upd (s1 mc) mr (nI x))) 9 (upd (cset s1 mc (upd (s1 mc) mr (nI x)) 9) x (-1))) := (sam.cs (by rcases hcm with q | q <;> rw [q] <;> decide)).tr (sam.cs (by decide))
        have hs39 : sam [9, 10] s1 (cset (cset s1 mc (upd (s1 mc) mr (nI x))) 9 (upd (cset s1 mc (upd (s1 mc) mr (nI x)) 9) x (-1))) := (sam.cs (by rcases hcm with q | q <;> rw [q] <;> decide)).tr (sam.cs (by decide))
        generalize cset (cset s1 mc (upd (s1 mc) mr (nI x))) 9 (upd (cset s1 mc (upd (s1 mc) mr (nI x)) 9) x (-1)) = s3 at t3 t3x t3s hs3 hs39 ⊢
        have t11 : s3 11 = s 11 := by rw [hs39.at 11, x8.at 11]
        have hx11 : s3 11 x = 0 := by rw [t11]; exact x3
        have t3o : s3 lc lr = -1 := by rw [t3 lc (by omega) (by omega) lr hne (fun q => by have := congrArg Prod.snd q; dsimp only at this; omega)]; exact hsl1
        have hr3 : repM s3 g rl S := by
          refine ⟨fun i hi => ?_, hr.2⟩
          obtain ⟨i0, ⟨p0, p1, p2, p3, p4, p5⟩, kc⟩ := x5.1 i hi
          have ne1 : ∀ c, (c, rl i) ≠ (mc, mr) := fun c q => hmrl i hi (congrArg Prod.snd q)
          have ne2 : ∀ c, (c, rl i) ≠ (9, x) := fun c q => hxrl i hi (congrArg Prod.snd q)
          exact ⟨i0, ⟨p0, by rw [t3 6 (by decide) (by decide) _ (ne1 6) (ne2 6)]; exact p1, by rw [t3 7 (by decide) (by decide) _ (ne1 7) (ne2 7)]; exact p2, by rw [t3 8 (by decide) (by decide) _ (ne1 8) (ne2 8)]; exact p3, by rw [t3 9 (by decide) (by decide) _ (ne1 9) (ne2 9)]; exact p4, by rw [t3 10 (by decide) (by decide) _ (ne1 10) (ne2 10)]; exact p5⟩, kc⟩
        refine ih f (idx + 1) (fr + 1) (x + 1) le (nI x) lc lr 9 x s3 (by omega) (by omega) hws' hwl ((hy.sam x8 (by decide) (by decide)).sam hs39 (by decide) (by decide)) hr3 (fun i hi => by rw [t11]; exact hL i hi) (x4.sam hs39 (by decide) (by decide) (by decide)) (by omega) (by omega) (fun c hc => hS c (List.mem_cons_of_mem _ hc)) (by omega) (by omega) (by omega) (by rw [t11]; exact hl11) hx11 hle (Or.inr ⟨rfl, rfl⟩) (fun q => by have := congrArg Prod.snd q; dsimp only at this; omega) h1 (by omega) h3 t3o t3x (fun s' rl' q1 qx q2 q3 q4 q5 q6 => ?_)
        have em : ∀ i, i ≤ n → mI rl' i = mI rl i := by intro i hi; unfold mI; rw [qx i hi]
        have hxne : ∀ i, Sup S n (n + bs.length) i → rl' i ≠ x := by
          intro i hi e
          rcases q6 i hi with ⟨z1, z2⟩ | z
          · rw [z2] at e; exact hxrl i z1 e
          · omega
        have em2 : ∀ i, i ≤ n + bs.length → mI (upn rl' (n + bs.length + 1) x) i = mI rl' i := by intro i hi; unfold mI; rw [upn_ne _ _ (by omega)]
        refine hp s' (upn rl' (n + bs.length + 1) x) ?_ (fun i hi => by rw [upn_ne _ _ (by omega)]; exact qx i hi) ?_ ?_ (fun c c1 c2 r hr0 hr1 hr2 => ?_) (x8.tr (hs3.tr q5)) (fun i hi => ?_)
        · rw [List.length_cons, show n + (bs.length + 1) = n + bs.length + 1 by omega, ← Sup_tr S (Nat.le_add_right n bs.length) (Nat.le_succ _)]
          exact repM_add q1 hSn' (by omega) hxne (hpl.2.imp id Or.inr) (kids.2.imp id Or.inl) (by rw [q4 6 (by decide) (by decide) x (by omega) (fun q => by have := congrArg Prod.snd q; dsimp only at this; omega) (fun q => by simp at q), t3 6 (by decide) (by decide) x (fun q => by have := congrArg Prod.snd q; dsimp only at this; omega) (fun q => by simp at q)]; exact c6) (by rw [q4 7 (by decide) (by decide) x (by omega) (fun q => by have := congrArg Prod.snd q; dsimp only at this; omega) (fun q => by simp at q), t3 7 (by decide) (by decide) x (fun q => by have := congrArg Prod.snd q; dsimp only at this; omega) (fun q => by simp at q)]; exact c7) (by rw [q4 8 (by decide) (by decide) x (by omega) (fun q => by have := congrArg Prod.snd q; dsimp only at this; omega) (fun q => by simp at q), t3 8 (by decide) (by decide) x (fun q => by have := congrArg Prod.snd q; dsimp only at this; omega) (fun q => by simp at q)]; exact c8) q3 (by rw [em _ krn, q4 10 (by decide) (by decide) x (by omega) (fun q => by have := congrArg Prod.snd q; dsimp only at this; omega) (fun q => by simp at q), t3 10 (by decide) (by decide) x (fun q => by have := congrArg Prod.snd q; dsimp only at this; omega) (fun q => by simp at q)]; exact c10)
        · rw [em2 _ (by omega)]; exact q2
        · rw [q4 mc (by omega) (by omega) mr (by omega) (fun q => hne q.symm) (fun q => by have := congrArg Prod.snd q; dsimp only at this; omega), t3s, mI_s _ (by omega), upn_eq]
        · rw [q4 c c1 c2 r (by omega) hr1 (fun q => by have := congrArg Prod.snd q; dsimp only at this; omega), t3 c c1 c2 r hr2 (fun q => by have := congrArg Prod.snd q; dsimp only at this; omega), x9 c c1 c2 r (by omega)]
        · rw [List.length_cons, show n + (bs.length + 1) = n + bs.length + 1 by omega] at hi
          by_cases e : i = n + bs.length + 1
          · right; rw [e, upn_eq]; exact x1
          · rw [upn_ne _ _ e]
            have hi' : Sup S n (n + bs.length) i := by
              rcases hi with z | z
              · exact Or.inl z
              · exact Or.inr (by omega)
            rcases q6 i hi' with z | z
            · exact Or.inl z
            · right; omega
      rcases hmo with ⟨g1, g2, g3⟩ | ⟨g1, g2⟩
      · rw [g1]
        refine brN.mf (by decide) (wrA.mk x0 rfl h3 (by omega) (wrA.mk x rfl (by omega) (by omega) (nmI.mk ?_)))
        rw [nI_1]
        rw [g2, g3] at fin
        exact fin
      · rw [g1]
        refine brN.mt (nI_pos' (by omega)) (wrA.mk mr rfl (by omega) (by omega) (wrA.mk x rfl (by omega) (by omega) (nmI.mk ?_)))
        rw [nI_1]
        rw [g2] at fin
        exact fin
    · have ck : gK g b < k := i32_nle.mp c
      rw [pl2, if_pos ck] at hp
      dsimp only at hp
      have fin : lp_X3_putNew_119 post f k (nI x0) (nI (idx + 1)) (nI x) mo (cset (cset s1 lc (upd (s1 lc) lr (nI x))) 10 (upd (cset s1 lc (upd (s1 lc) lr (nI x)) 10) x (-1))) := by
        have t3 : ∀ c, 6 ≤ c → c ≤ 10 → ∀ r, (c, r) ≠ (lc, lr) → (c, r) ≠ (10, x) → cset (cset s1 lc (upd (s1 lc) lr (nI x))) 10 (upd (cset s1 lc (upd (s1 lc) lr (nI x)) 10) x (-1)) c r = s1 c r := by
          intro c q1 q2 r q3 q4
          rw [cset_ap]
          by_cases e : c = 10
          · rw [if_pos e, upd_ap, if_neg (fun q => q4 (by rw [e, q])), cset_ap]
            by_cases e2 : 10 = lc
            · rw [if_pos e2, upd_ap, if_neg (fun q => q3 (by rw [e, q, e2])), e, e2]
            · rw [if_neg e2, e]
          · rw [if_neg e, cset_ap]
            by_cases e2 : c = lc
            · rw [if_pos e2, upd_ap, if_neg (fun q => q3 (by rw [e2, q])), e2]
            · rw [if_neg e2]
        have t3x : cset (cset s1 lc (upd (s1 lc) lr (nI x))) 10 (upd (cset s1 lc (upd (s1 lc) lr (nI x)) 10) x (-1)) 10 x = -1 := by rw [cset_eq, upd_ap, if_pos rfl]
        have t3s : cset (cset s1 lc (upd (s1 lc) lr (nI x))) 10 (upd (cset s1 lc (upd (s1 lc) lr (nI x)) 10) x (-1)) lc lr = nI x := by
          rw [cset_ap]
          by_cases e : lc = 10
          · rw [if_pos e, upd_ap, if_neg (by omega), ← e, cset_eq, upd_ap, if_pos rfl]
          · rw [if_neg e, cset_eq, upd_ap, if_pos rfl]
        have hs3 : sam [6, 7, 8, 9, 10, 17, 18] s1 (cset (cset s1 lc (upd (s1 lc) lr (nI x))) 10 (upd (cset s1 lc (upd (s1 lc) lr (nI x)) 10) x (-1))) := (sam.cs (by rcases hcl with q | q <;> rw [q] <;> decide)).tr (sam.cs (by decide))
        have hs39 : sam [9, 10] s1 (cset (cset s1 lc (upd (s1 lc) lr (nI x))) 10 (upd (cset s1 lc (upd (s1 lc) lr (nI x)) 10) x (-1))) := (sam.cs (by rcases hcl with q | q <;> rw [q] <;> decide)).tr (sam.cs (by decide))
        generalize cset (cset s1 lc (upd (s1 lc) lr (nI x))) 10 (upd (cset s1 lc (upd (s1 lc) lr (nI x)) 10) x (-1)) = s3 at t3 t3x t3s hs3 hs39 ⊢
        have t11 : s3 11 = s 11 := by rw [hs39.at 11, x8.at 11]
        have hx11 : s3 11 x = 0 := by rw [t11]; exact x3
        have t3o : s3 mc mr = -1 := by rw [t3 mc (by omega) (by omega) mr (fun q => hne q.symm) (fun q => by have := congrArg Prod.snd q; dsimp only at this; omega)]; exact hsm1
        have hr3 : repM s3 g rl S := by
          refine ⟨fun i hi => ?_, hr.2⟩
          obtain ⟨i0, ⟨p0, p1, p2, p3, p4, p5⟩, kc⟩ := x5.1 i hi
          have ne1 : ∀ c, (c, rl i) ≠ (lc, lr) := fun c q => hlrl i hi (congrArg Prod.snd q)
          have ne2 : ∀ c, (c, rl i) ≠ (10, x) := fun c q => hxrl i hi (congrArg Prod.snd q)
          exact ⟨i0, ⟨p0, by rw [t3 6 (by decide) (by decide) _ (ne1 6) (ne2 6)]; exact p1, by rw [t3 7 (by decide) (by decide) _ (ne1 7) (ne2 7)]; exact p2, by rw [t3 8 (by decide) (by decide) _ (ne1 8) (ne2 8)]; exact p3, by rw [t3 9 (by decide) (by decide) _ (ne1 9) (ne2 9)]; exact p4, by rw [t3 10 (by decide) (by decide) _ (ne1 10) (ne2 10)]; exact p5⟩, kc⟩
        refine ih f (idx + 1) (fr + 1) (x + 1) (nI x) mo 10 x mc mr s3 (by omega) (by omega) hws' hwl ((hy.sam x8 (by decide) (by decide)).sam hs39 (by decide) (by decide)) hr3 (fun i hi => by rw [t11]; exact hL i hi) (x4.sam hs39 (by decide) (by decide) (by decide)) (by omega) (by omega) (fun c hc => hS c (List.mem_cons_of_mem _ hc)) (by omega) (by omega) (by omega) hx11 (by rw [t11]; exact hm11) (Or.inr ⟨rfl, rfl⟩) hmo (fun q => by have := congrArg Prod.snd q; dsimp only at this; omega) (by omega) h2 h3 t3x t3o (fun s' rl' q1 qx q2 q3 q4 q5 q6 => ?_)
        have em : ∀ i, i ≤ n → mI rl' i = mI rl i := by intro i hi; unfold mI; rw [qx i hi]
        have hxne : ∀ i, Sup S n (n + bs.length) i → rl' i ≠ x := by
          intro i hi e
          rcases q6 i hi with ⟨z1, z2⟩ | z
          · rw [z2] at e; exact hxrl i z1 e
          · omega
        have em2 : ∀ i, i ≤ n + bs.length → mI (upn rl' (n + bs.length + 1) x) i = mI rl' i := by intro i hi; unfold mI; rw [upn_ne _ _ (by omega)]
        refine hp s' (upn rl' (n + bs.length + 1) x) ?_ (fun i hi => by rw [upn_ne _ _ (by omega)]; exact qx i hi) ?_ ?_ (fun c c1 c2 r hr0 hr1 hr2 => ?_) (x8.tr (hs3.tr q5)) (fun i hi => ?_)
        · rw [List.length_cons, show n + (bs.length + 1) = n + bs.length + 1 by omega, ← Sup_tr S (Nat.le_add_right n bs.length) (Nat.le_succ _)]
          exact repM_add q1 hSn' (by omega) hxne (kids.1.imp id Or.inl) (hpl.1.imp id Or.inr) (by rw [q4 6 (by decide) (by decide) x (by omega) (fun q => by simp at q) (fun q => by have := congrArg Prod.snd q; dsimp only at this; omega), t3 6 (by decide) (by decide) x (fun q => by have := congrArg Prod.snd q; dsimp only at this; omega) (fun q => by simp at q)]; exact c6) (by rw [q4 7 (by decide) (by decide) x (by omega) (fun q => by simp at q) (fun q => by have := congrArg Prod.snd q; dsimp only at this; omega), t3 7 (by decide) (by decide) x (fun q => by have := congrArg Prod.snd q; dsimp only at this; omega) (fun q => by simp at q)]; exact c7) (by rw [q4 8 (by decide) (by decide) x (by omega) (fun q => by simp at q) (fun q => by have := congrArg Prod.snd q; dsimp only at this; omega), t3 8 (by decide) (by decide) x (fun q => by have := congrArg Prod.snd q; dsimp only at this; omega) (fun q => by simp at q)]; exact c8) (by rw [em _ kln, q4 9 (by decide) (by decide) x (by omega) (fun q => by simp at q) (fun q => by have := congrArg Prod.snd q; dsimp only at this; omega), t3 9 (by decide) (by decide) x (fun q => by have := congrArg Prod.snd q; dsimp only at this; omega) (fun q => by simp at q)]; exact c9) q2
        · rw [q4 lc (by omega) (by omega) lr (by omega) (fun q => by have := congrArg Prod.snd q; dsimp only at this; omega) hne, t3s, mI_s _ (by omega), upn_eq]
        · rw [em2 _ (by omega)]; exact q3
        · rw [q4 c c1 c2 r (by omega) (fun q => by have := congrArg Prod.snd q; dsimp only at this; omega) hr2, t3 c c1 c2 r hr1 (fun q => by have := congrArg Prod.snd q; dsimp only at this; omega), x9 c c1 c2 r (by omega)]
        · rw [List.length_cons, show n + (bs.length + 1) = n + bs.length + 1 by omega] at hi
          by_cases e : i = n + bs.length + 1
          · right; rw [e, upn_eq]; exact x1
          · rw [upn_ne _ _ e]
            have hi' : Sup S n (n + bs.length) i := by
              rcases hi with z | z
              · exact Or.inl z
              · exact Or.inr (by omega)
            rcases q6 i hi' with z | z
            · exact Or.inl z
            · right; omega
      rcases hle with ⟨g1, g2, g3⟩ | ⟨g1, g2⟩
      · rw [g1]
        refine brN.mf (by decide) (wrA.mk x0 rfl h3 (by omega) (wrA.mk x rfl (by omega) (by omega) (nmI.mk ?_)))
        rw [nI_1]
        rw [g2, g3] at fin
        exact fin
      · rw [g1]
        refine brN.mt (nI_pos' (by omega)) (wrA.mk lr rfl (by omega) (by omega) (wrA.mk x rfl (by omega) (by omega) (nmI.mk ?_)))
        rw [nI_1]
        rw [g2] at fin
        exact fin
end PutM
