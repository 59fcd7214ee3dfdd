/-! what holds when both are made -/
abbrev W0 : WS := (tw0, [], [], fun _ => none)
theorem gz_mod : ModAt gZ 102 := by
  unfold ModAt
  repeat' apply And.intro
  all_goals decide +kernel
theorem gz_rw : RW gZ 102 W0 := by
  refine ⟨gz_mod, ?_, ?_, ⟨by decide +kernel, by decide, fun i c hc => by simp at hc⟩, ⟨by decide +kernel, by decide, fun i b hb => by simp at hb⟩, fun s hs => ?_, by decide +kernel⟩
  · exact ⟨⟨by decide, by decide, by simp, by simp⟩, ⟨by decide +kernel, by decide +kernel, by decide +kernel, by decide +kernel, by decide +kernel, by decide +kernel, by decide +kernel⟩, fun j hj => absurd hj (Nat.not_lt_zero j), fun j hj => absurd hj (Nat.not_lt_zero j), fun j hj => absurd hj (Nat.not_lt_zero j), fun j hj => absurd hj (Nat.not_lt_zero j), by decide +kernel, fun k N hk => by simp at hk, fun k q hk => by simp at hk⟩
  · unfold M5; decide +kernel
  · exact (by decide +kernel : ∀ s, s < 4 → hI gZ (102 + 43) s = 0) s hs
theorem gz_ok : wOk W0 := ⟨⟨⟨Or.inl ⟨rfl, rfl, rfl, rfl, rfl⟩, ⟨by simp, fun k q hq => by simp at hq⟩, ⟨0, by decide, by decide⟩, ⟨0, by simp, by decide⟩⟩, fun s T' _ e => by cases e⟩, fun b hb => by simp at hb⟩
theorem gz_b : ∀ i, i < 20 → hR gZ (1 + 8 + 7) i = 0 := by decide +kernel
theorem gz_i : ∀ s, s < 4 → hR gZ (1 + 19) s = 0 := by decide +kernel
theorem gz_t : hR gZ (1 + 8) 0 = 0 := by decide +kernel
theorem gz_town : TownIs gZ (1 + 8) tw0 := ⟨by unfold TwnAt MomAt; decide +kernel, ⟨by omega, by omega, by simp, by simp⟩, Or.inl ⟨gz_t, rfl, rfl, rfl⟩, ⟨by decide +kernel, by decide +kernel, by decide +kernel, by decide +kernel⟩, ⟨by unfold MomAt; decide +kernel, ⟨by decide +kernel, fun j hj => absurd hj (Nat.not_lt_zero j), fun j hj => absurd hj (Nat.not_lt_zero j)⟩, fun j _ hj => (by decide +kernel : ∀ j, j < 5 → hI gZ (1 + 8 + 1 + 3) j = 0) j hj⟩, fun i hi z => absurd (gz_b i hi) z, fun k N hk => by simp at hk, fun k q hk => by simp at hk⟩
theorem gz_scr : SCR gZ 1 := by
  unfold SCR CouAt MomAt
  repeat' apply And.intro
  all_goals decide +kernel
theorem gz_rdr : RDR gZ 1 := by unfold RDR; decide +kernel
theorem gz_hd : hS gZ 1 = (21, 11) ∧ hR gZ 1 0 = 1 + 1 ∧ hR gZ 1 1 = 1 + 2 ∧ hR gZ 1 2 = 1 + 7 ∧ hR gZ 1 4 = 1 + 8 ∧ hR gZ 1 5 = 1 + 19 ∧ hR gZ 1 6 = 1 + 20 ∧ hR gZ 1 7 = 1 + 25 ∧ hR gZ 1 8 = 1 + 37 ∧ hR gZ 1 9 = 1 + 79 ∧ hR gZ 1 10 = 1 + 99 := by decide +kernel
theorem gz_cw (w : wfH gZ) : CW (fun _ => 0, gZ) gZ 1 W0 := by
  refine ⟨⟨⟨fun b hb => (w.2 b hb).2, by decide +kernel, by decide⟩, gz_hd⟩, ⟨gz_town, ⟨fun z => absurd gz_t z, fun i hi z => absurd (gz_b i hi) z⟩⟩, ⟨by decide +kernel, ⟨by decide +kernel, by simp, fun i c hc => by simp at hc⟩, fun i c hc => by simp at hc⟩, ⟨by decide +kernel, by decide +kernel, by decide +kernel, by decide +kernel, by simp, fun i b hb => by simp at hb⟩, ⟨by decide +kernel, fun s hs => gz_i s hs, fun s s' h1 h2 z => absurd (gz_i s h1) z⟩, gz_scr, gz_rdr, ⟨⟨by decide, fun i hi => ⟨fun z => absurd (gz_b i hi) z, fun z => absurd z (Nat.not_lt_zero i)⟩⟩, fun s T hs e => by cases e⟩, EqM.refl _ _⟩
