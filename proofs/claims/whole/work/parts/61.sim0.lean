section Sim0
def lv0 : Nat → Bool := fun h => decide (h = 0)
theorem lv0_row (j : Nat) : upd (fun _ => (0 : Int32)) (Int32.toNatClampNeg 0) (vp_nar .boolean 1) j = bI (lv0 j) := by
  have e1 : Int32.toNatClampNeg 0 = 0 := by decide
  have e2 : vp_nar .boolean 1 = 1 := by rfl
  rw [e1, e2]
  unfold upd lv0 bI
  by_cases h : j = 0
  · simp [h]
  · simp [h]
theorem cr0 {C V : Nat} (hC : 1 ≤ C ∧ C ≤ 40) (hV : 1 ≤ V ∧ V ≤ 8) (sd : Int32) (g : LG) : CR C V (cs0 sd) g 0 (fun _ => 0) lv0 (fun _ => 0) sd 0 0 := by
  have hn : ∀ i, ¬ liv g lv0 (fun _ => 0) V i := by
    intro i ⟨h, _, _, h3⟩
    rw [nd_0] at h3
    cases h3
  have hz : ctB (cs0 sd 7) (C + 1) = 0 := ctB_z (fun j _ => rfl)
  refine ⟨hC, hV, fun i h1 h2 => absurd h2 (by omega), fun _ _ _ => Nat.le_refl _, ⟨rfl, fun i hi => absurd hi (hn i), fun i j hi => absurd hi (hn i), rfl, rfl, fun p _ => Or.inl rfl, by rw [hz]; rfl⟩, fun h _ => lv0_row h, fun h _ _ => rfl, rfl, rfl, hz, Nat.zero_le _, rfl⟩
theorem sim0 {C V : Nat} (hC : 1 ≤ C ∧ C ≤ 40) (hV : 1 ≤ V ∧ V ≤ 8) (sd : Int32) {f : Nat → Int32} (hf : ∀ j, j < 8 → f j = -1) : Sim C V (cs0 sd) (ms0 C V sd f) := by
  obtain ⟨g⟩ : Nonempty LG := ⟨(fun _ => 0, fun _ => 0, fun _ => 0, fun _ => 0, fun _ => 0)⟩
  have H := cr0 hC hV sd g
  have hn : ∀ i, ¬ liv g lv0 (fun _ => 0) V i := by
    intro i ⟨h, _, _, h3⟩
    rw [nd_0] at h3
    cases h3
  refine ⟨g, 0, fun _ => 0, fun _ => 0, lv0, fun _ => 0, sd, 0, 0, H, ⟨hC.2, hV.2⟩, fun i h1 h2 => absurd h2 (by omega), fun _ _ _ => Nat.le_refl _, ⟨fun i hi => absurd hi (hn i), fun i j hi => absurd hi (hn i)⟩, fun h _ => lv0_row h, fun h h1 _ => ?_, rfl, rfl, rfl, rfl, rfl, Nat.zero_le _, H.lvc⟩
  show f h = mI (fun _ => 0) 0
  rw [hf h (by omega)]
  rfl
end Sim0
