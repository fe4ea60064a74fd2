section Easy
variable {len : Nat → Nat} {r : jR} {i : jI} {j : jL} {k : Nat} {y1 y2 y3 y4 : Int32}
theorem ok_1 (hg : Gr r len) (h : Rp k i) : J_X11_blank len r (fun q i1 j1 => J_X12_blank len r (fun q2 i2 j2 => q = q2 ∧ Rp (k + 5) i2) i1 j1 37) i j 0 := by
  obtain ⟨ns, ng, nt, nw, np, dn, pl, A, B, G, P, fr, h1, h2, h3, h4, h5, h6, h7, h8⟩ := h
  rw [J_X11_blank]
  refine ⟨_, hg.1 _ (by decide) _ (by decide) _ rfl, fun v e => ⟨_, hg.1 _ (by decide) _ (by decide) _ rfl, fun i1 e1 => ?_⟩⟩
  rw [J_X12_blank]
  intro v2 e2 i2 e3
  subst e1
  subst e3
  refine ⟨?_, ns, ng, nt, nw, np, dn, 0, A, B, G, P, fr, h1.cong ⟨fun a ha => by rw [ju_ne (by omega), ju_ne (by omega)], by simp [ju, upd], by simp [ju, upd], by simp [ju, upd]⟩, (h2.cong ⟨by simp [ju, upd], by simp [ju, upd]⟩).up (by omega), h3, h4.cong ⟨fun a ha => by rw [ju_ne (by omega), ju_ne (by omega)], by simp [ju, upd], by simp [ju, upd]⟩, h5.cong ⟨by simp [ju, upd], by simp [ju, upd], by simp [ju, upd], by simp [ju, upd]⟩, h6.cong ⟨by simp [ju, upd], by simp [ju, upd]⟩, ⟨by simp [ju, upd, nI_0], by simp [ju, upd, nI_0], by decide, fun q hq => absurd hq (Nat.not_lt_zero q)⟩, h8.cong ⟨fun a ha => by rw [ju_ne (by omega), ju_ne (by omega)], by simp [ju, upd], by simp [ju, upd], by simp [ju, upd], by simp [ju, upd]⟩⟩
  rw [e, e2, h7.2.1]
  simp only [ju, upd]
  exact h7.1.symm
theorem ok_22 (hg : Gr r len) (h : Rp k i) : J_X11_wipe len r (fun q i1 j1 => J_X12_wipe len r (fun q2 i2 j2 => q = q2 ∧ Rp (k + 5) i2) i1 j1 37) i j 0 := by
  obtain ⟨ns, ng, nt, nw, np, dn, pl, A, B, G, P, fr, h1, h2, h3, h4, h5, h6, h7, h8⟩ := h
  rw [J_X11_wipe]
  intro v e i1 e1
  rw [J_X12_wipe]
  intro v2 e2 i2 e3
  subst e1
  subst e3
  refine ⟨?_, ns, ng, nt, nw, 0, dn, pl, A, B, G, P, fr, h1.cong ⟨fun a ha => by rw [ju_ne (by omega), ju_ne (by omega)], by simp [ju, upd], by simp [ju, upd], by simp [ju, upd]⟩, (h2.cong ⟨by simp [ju, upd], by simp [ju, upd]⟩).up (by omega), h3, h4.cong ⟨fun a ha => by rw [ju_ne (by omega), ju_ne (by omega)], by simp [ju, upd], by simp [ju, upd]⟩, ⟨by simp [ju, upd, nI_0], by simp [ju, upd, nI_0], by decide, fun q hq => absurd hq (Nat.not_lt_zero q)⟩, h6.cong ⟨by simp [ju, upd], by simp [ju, upd]⟩, h7.cong ⟨by simp [ju, upd], by simp [ju, upd], by simp [ju, upd], by simp [ju, upd]⟩, h8.cong ⟨fun a ha => by rw [ju_ne (by omega), ju_ne (by omega)], by simp [ju, upd], by simp [ju, upd], by simp [ju, upd], by simp [ju, upd]⟩⟩
  rw [e, e2, h5.2.1]
  simp only [ju, upd]
  exact h5.1.symm
theorem ok_27 (hg : Gr r len) (h : Rp k i) : J_X11_count len r (fun q i1 j1 => J_X12_count len r (fun q2 i2 j2 => q = q2 ∧ Rp (k + 5) i2) i1 j1 37 y1) i j 0 y1 := by
  have hR := h.up (k2 := k + 5) (by omega)
  obtain ⟨ns, ng, nt, nw, np, dn, pl, A, B, G, P, fr, h1, h2, h3, h4, h5, h6, h7, h8⟩ := h
  have e0 : i 3 0 = i 37 0 := h1.2.1.1.trans h1.1.1.symm
  have e1 : i 3 1 = i 37 5 := h1.2.2.2.1.2.1.trans h1.2.2.2.1.1.symm
  have e2 : i 0 3 = i 37 8 := h4.2.1.trans h4.1.symm
  have e3 : i 0 5 = i 37 12 := h5.2.1.trans h5.1.symm
  have e4 : i 3 2 = i 37 6 := h1.2.1.2.2.1.trans h1.1.2.2.1.symm
  have e5 : i 1 1 = i 37 15 := h7.2.1.trans h7.1.symm
  have e6 : i 0 7 = i 37 7 := h2.2.1.trans h2.1.symm
  have e7 : i 0 8 = i 37 14 := h6.2.1.trans h6.1.symm
  have key : ∀ v : Int32, J_X12_howMany len r (fun q2 i2 j2 => v = q2 ∧ Rp (k + 5) i2) i j 37 y1 → J_X12_count len r (fun q2 i2 j2 => v = q2 ∧ Rp (k + 5) i2) i j 37 y1 := fun v h => by rw [J_X12_count]; exact h
  rw [J_X11_count]
  by_cases hc0 : y1 = 0
  · subst hc0
    refine ⟨fun _ => ?_, fun h => absurd h (by decide), fun h => absurd h (by decide), fun h => absurd h (by decide), fun h => absurd h (by decide), fun h => absurd h (by decide), fun h => absurd h (by decide), fun h => absurd h (by decide), fun h0 _ _ _ _ _ _ _ => absurd rfl h0⟩
    refine ⟨_, hg.1 _ (by decide) _ (by decide) _ rfl, key _ ?_⟩
    rw [J_X12_howMany]
    exact ⟨fun _ => ⟨e0, hR⟩, fun h => absurd h (by decide), fun h => absurd h (by decide), fun h => absurd h (by decide), fun h => absurd h (by decide), fun h => absurd h (by decide), fun h => absurd h (by decide), fun h => absurd h (by decide), fun h0 _ _ _ _ _ _ _ => absurd rfl h0⟩
  by_cases hc1 : y1 = 1
  · subst hc1
    refine ⟨fun h => absurd h (by decide), fun _ => ?_, fun h => absurd h (by decide), fun h => absurd h (by decide), fun h => absurd h (by decide), fun h => absurd h (by decide), fun h => absurd h (by decide), fun h => absurd h (by decide), fun _ h1 _ _ _ _ _ _ => absurd rfl h1⟩
    refine ⟨_, hg.1 _ (by decide) _ (by decide) _ rfl, key _ ?_⟩
    rw [J_X12_howMany]
    exact ⟨fun h => absurd h (by decide), fun _ => ⟨e1, hR⟩, fun h => absurd h (by decide), fun h => absurd h (by decide), fun h => absurd h (by decide), fun h => absurd h (by decide), fun h => absurd h (by decide), fun h => absurd h (by decide), fun _ h1 _ _ _ _ _ _ => absurd rfl h1⟩
  by_cases hc2 : y1 = 2
  · subst hc2
    refine ⟨fun h => absurd h (by decide), fun h => absurd h (by decide), fun _ => ?_, fun h => absurd h (by decide), fun h => absurd h (by decide), fun h => absurd h (by decide), fun h => absurd h (by decide), fun h => absurd h (by decide), fun _ _ h2 _ _ _ _ _ => absurd rfl h2⟩
    refine key _ ?_
    rw [J_X12_howMany]
    exact ⟨fun h => absurd h (by decide), fun h => absurd h (by decide), fun _ => ⟨e2, hR⟩, fun h => absurd h (by decide), fun h => absurd h (by decide), fun h => absurd h (by decide), fun h => absurd h (by decide), fun h => absurd h (by decide), fun _ _ h2 _ _ _ _ _ => absurd rfl h2⟩
  by_cases hc3 : y1 = 3
  · subst hc3
    refine ⟨fun h => absurd h (by decide), fun h => absurd h (by decide), fun h => absurd h (by decide), fun _ => ?_, fun h => absurd h (by decide), fun h => absurd h (by decide), fun h => absurd h (by decide), fun h => absurd h (by decide), fun _ _ _ h3 _ _ _ _ => absurd rfl h3⟩
    refine key _ ?_
    rw [J_X12_howMany]
    exact ⟨fun h => absurd h (by decide), fun h => absurd h (by decide), fun h => absurd h (by decide), fun _ => ⟨e3, hR⟩, fun h => absurd h (by decide), fun h => absurd h (by decide), fun h => absurd h (by decide), fun h => absurd h (by decide), fun _ _ _ h3 _ _ _ _ => absurd rfl h3⟩
  by_cases hc4 : y1 = 4
  · subst hc4
    refine ⟨fun h => absurd h (by decide), fun h => absurd h (by decide), fun h => absurd h (by decide), fun h => absurd h (by decide), fun _ => ?_, fun h => absurd h (by decide), fun h => absurd h (by decide), fun h => absurd h (by decide), fun _ _ _ _ h4 _ _ _ => absurd rfl h4⟩
    refine ⟨_, hg.1 _ (by decide) _ (by decide) _ rfl, ?_⟩
    rw [e4]
    by_cases hz : i 37 6 = 0
    · refine ⟨fun _ => key _ ?_, fun h => absurd hz h⟩
      rw [J_X12_howMany]
      exact ⟨fun h => absurd h (by decide), fun h => absurd h (by decide), fun h => absurd h (by decide), fun h => absurd h (by decide), fun _ => ⟨fun _ => ⟨rfl, hR⟩, fun h => absurd hz h⟩, fun h => absurd h (by decide), fun h => absurd h (by decide), fun h => absurd h (by decide), fun _ _ _ _ h4 _ _ _ => absurd rfl h4⟩
    · refine ⟨fun h => absurd h hz, fun _ => key _ ?_⟩
      rw [J_X12_howMany]
      exact ⟨fun h => absurd h (by decide), fun h => absurd h (by decide), fun h => absurd h (by decide), fun h => absurd h (by decide), fun _ => ⟨fun h => absurd h hz, fun _ => ⟨rfl, hR⟩⟩, fun h => absurd h (by decide), fun h => absurd h (by decide), fun h => absurd h (by decide), fun _ _ _ _ h4 _ _ _ => absurd rfl h4⟩
  by_cases hc5 : y1 = 5
  · subst hc5
    refine ⟨fun h => absurd h (by decide), fun h => absurd h (by decide), fun h => absurd h (by decide), fun h => absurd h (by decide), fun h => absurd h (by decide), fun _ => ?_, fun h => absurd h (by decide), fun h => absurd h (by decide), fun _ _ _ _ _ h5 _ _ => absurd rfl h5⟩
    refine ⟨_, hg.1 _ (by decide) _ (by decide) _ rfl, key _ ?_⟩
    rw [J_X12_howMany]
    exact ⟨fun h => absurd h (by decide), fun h => absurd h (by decide), fun h => absurd h (by decide), fun h => absurd h (by decide), fun h => absurd h (by decide), fun _ => ⟨e5, hR⟩, fun h => absurd h (by decide), fun h => absurd h (by decide), fun _ _ _ _ _ h5 _ _ => absurd rfl h5⟩
  by_cases hc6 : y1 = 6
  · subst hc6
    refine ⟨fun h => absurd h (by decide), fun h => absurd h (by decide), fun h => absurd h (by decide), fun h => absurd h (by decide), fun h => absurd h (by decide), fun h => absurd h (by decide), fun _ => ?_, fun h => absurd h (by decide), fun _ _ _ _ _ _ h6 _ => absurd rfl h6⟩
    refine key _ ?_
    rw [J_X12_howMany]
    exact ⟨fun h => absurd h (by decide), fun h => absurd h (by decide), fun h => absurd h (by decide), fun h => absurd h (by decide), fun h => absurd h (by decide), fun h => absurd h (by decide), fun _ => ⟨e6, hR⟩, fun h => absurd h (by decide), fun _ _ _ _ _ _ h6 _ => absurd rfl h6⟩
  by_cases hc7 : y1 = 7
  · subst hc7
    refine ⟨fun h => absurd h (by decide), fun h => absurd h (by decide), fun h => absurd h (by decide), fun h => absurd h (by decide), fun h => absurd h (by decide), fun h => absurd h (by decide), fun h => absurd h (by decide), fun _ => ?_, fun _ _ _ _ _ _ _ h7 => absurd rfl h7⟩
    refine key _ ?_
    rw [J_X12_howMany]
    exact ⟨fun h => absurd h (by decide), fun h => absurd h (by decide), fun h => absurd h (by decide), fun h => absurd h (by decide), fun h => absurd h (by decide), fun h => absurd h (by decide), fun h => absurd h (by decide), fun _ => ⟨e7, hR⟩, fun _ _ _ _ _ _ _ h7 => absurd rfl h7⟩
  refine ⟨fun h => absurd h hc0, fun h => absurd h hc1, fun h => absurd h hc2, fun h => absurd h hc3, fun h => absurd h hc4, fun h => absurd h hc5, fun h => absurd h hc6, fun h => absurd h hc7, fun _ _ _ _ _ _ _ _ => key _ ?_⟩
  rw [J_X12_howMany]
  exact ⟨fun h => absurd h hc0, fun h => absurd h hc1, fun h => absurd h hc2, fun h => absurd h hc3, fun h => absurd h hc4, fun h => absurd h hc5, fun h => absurd h hc6, fun h => absurd h hc7, fun _ _ _ _ _ _ _ _ => ⟨rfl, hR⟩⟩
end Easy
