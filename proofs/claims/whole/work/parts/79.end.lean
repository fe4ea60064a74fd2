/-! THE INVARIANT of the two sides, and the end -/
def WCst (g : jS) : Prop := ((gN g = 65 ∧ gr g 0 14 = none) ∨ (gN g = 71 ∧ gr g 0 14 = some 65 ∧ hgA (gr g) (gl g))) ∧ (∀ q, q < 65 → gK g q = KK q) ∧ Gr (gr g) (gl g)
def WInv (k : Nat) (g : jS) : Prop := WCst g ∧ Rp k (gi g)
theorem WInv_si {k : Nat} {g : jS} (h : WCst g) (i2 : jI) (j2 : jL) : WInv k (gsi g i2 j2) = Rp k i2 := propext ⟨fun z => z.2, fun z => ⟨h, z⟩⟩
set_option maxHeartbeats 2000000 in
theorem law_ok : LawOK WInv := by
  intro k g hk h
  obtain ⟨hC, hR⟩ := h
  have hE := WInv_si (k := k + 5) hC
  have hg := hC.2.2
  have hn : 37 < gN g := by
    rcases hC.1 with h | h
    · rw [h.1]; decide
    · rw [h.1]; decide
  refine ⟨⟨hC, hR.up (by omega)⟩, ⟨by omega, hC.2.1 0 (by decide)⟩, ⟨hn, hC.2.1 37 (by decide)⟩, ?_, ?_, ?_, ?_, ?_, ?_, ?_, ?_, ?_, ?_, ?_, ?_, ?_, ?_, ?_, ?_, ?_, ?_, ?_, ⟨fun h14 y1 y2 y3 => ?_, fun h14 y1 y2 y3 => ?_⟩, ?_, ?_, ?_, ?_, ?_, ?_, ?_, ?_, ?_⟩
  · intro y1; unfold Lw_0; simp only [hE]; exact ok_0 hg hR y1
  · unfold Lw_1; simp only [hE]; exact ok_1 hg hR
  · unfold Lw_2; simp only [hE]; exact ok_2 hg hR
  · unfold Lw_3; simp only [hE]; exact ok_3 hg hR
  · intro y1 y2; unfold Lw_4; simp only [hE]; exact ok_4 hg hR
  · intro y1 y2; unfold Lw_5; simp only [hE]; exact ok_5 hg hR
  · intro y1 y2 y3; unfold Lw_6; simp only [hE]; exact ok_6 hk hg hR
  · intro y1 y2; unfold Lw_7; simp only [hE]; exact ok_7 hg hR
  · intro y1 y2; unfold Lw_8; simp only [hE]; exact ok_8 hg hR
  · intro y1 y2; unfold Lw_9; simp only [hE]; exact ok_9 hg hR
  · intro y1 y2; unfold Lw_10; simp only [hE]; exact ok_10 hg hR
  · intro y1 y2; unfold Lw_11; simp only [hE]; exact ok_11 hg hR
  · intro y1; unfold Lw_12; simp only [hE]; exact ok_12 hg hR
  · intro y1 y2 y3; unfold Lw_13; simp only [hE]; exact ok_13 hg hR
  · intro y1 y2 y3; unfold Lw_14; simp only [hE]; exact ok_14 hg hR
  · intro y1; unfold Lw_15; simp only [hE]; exact ok_15 hg hR
  · intro y1 y2; unfold Lw_16; simp only [hE]; exact ok_16 hg hR
  · intro y1 y2 y3; unfold Lw_17; simp only [hE]; exact ok_17 hg hR
  · intro y1 y2; unfold Lw_18; simp only [hE]; exact ok_18 hk hg hR
  · rcases hC.1 with h | h
    · exact ok_19n h.1 h14 hg hR (fun i2 j2 z => ⟨hC, z⟩) (fun g1 i2 j2 n1 k1 t1 a1 r1 z => ⟨⟨Or.inr ⟨n1, t1, a1⟩, fun q hq => (k1 q hq).trans (hC.2.1 q hq), r1⟩, z⟩)
    · rw [h.2.1] at h14
      cases h14
  · rcases hC.1 with h | h
    · exact absurd h.2 h14
    · unfold Lw_19; simp only [hE]; exact ok_19 hg h.2.2 h.2.1 hR
  · intro y1 y2; unfold Lw_20; simp only [hE]; exact ok_20 hg hR
  · intro y1 y2 y3; unfold Lw_21; simp only [hE]; exact ok_21 hg hR
  · unfold Lw_22; simp only [hE]; exact ok_22 hg hR
  · unfold Lw_23; simp only [hE]; exact ok_23 hg hR
  · intro y1 y2 y3 y4; unfold Lw_24; simp only [hE]; exact ok_24 hg hR
  · unfold Lw_25; simp only [hE]; exact ok_25 hk hg hR
  · unfold Lw_26; simp only [hE]; exact ok_26 hk hg hR
  · intro y1; unfold Lw_27; simp only [hE]; exact ok_27 hg hR
  · unfold Lw_28; simp only [hE]; exact ok_28 hk hg hR
theorem law_start : LawStart (WInv 0) := start_world (fun g e hz => ⟨⟨Or.inl ⟨by rw [e]; exact Gst_n, by rw [e]; exact Gst_arms⟩, fun q hq => by rw [e]; exact Gst_K q hq, by rw [e]; exact Gst_ok⟩, Rp.zero hz.1⟩)
