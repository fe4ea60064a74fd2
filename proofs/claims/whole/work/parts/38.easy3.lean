section Easy3
variable {len : Nat → Nat} {r : jR} {i : jI} {j : jL} {k : Nat} {y1 y2 y3 y4 : Int32}
theorem prC : ∀ g, g < 3 → ∀ w, w < 2 → ∀ f, f < 2 → ((nI g * (4 : Int32)) + (nI w * (2 : Int32))) + nI f = nI (4 * g + 2 * w + f) := by decide +kernel
theorem prM : ∀ g, g < 3 → ∀ w, w < 2 → ∀ f, f < 2 → (((4 : Int32) * nI g) + ((2 : Int32) * nI w)) + nI f = nI (4 * g + 2 * w + f) := by decide +kernel
theorem n6 {n : Nat} (hn : n ≤ 6) : (nI n < (6 : Int32) ↔ n < 6) ∧ (nI n = (6 : Int32) ↔ n = 6) := ⟨nI_ltI (b := 6) (by omega) (by decide), nI_eq (b := 6) (by omega) (by decide)⟩
theorem n5 {n : Nat} (hn : n ≤ 5) : (nI n < (5 : Int32) ↔ n < 5) ∧ (nI n = (5 : Int32) ↔ n = 5) := ⟨nI_ltI (b := 5) (by omega) (by decide), nI_eq (b := 5) (by omega) (by decide)⟩
set_option maxHeartbeats 1000000 in
theorem ok_21 (hg : Gr r len) (h : Rp k i) : J_X11_print len r (fun q i1 j1 => J_X12_print len r (fun q2 i2 j2 => q = q2 ∧ Rp (k + 5) i2) i1 j1 37 y1 y2 y3) i j 0 y1 y2 y3 := by
  have hR := h.up (k2 := k + 5) (by omega)
  obtain ⟨ns, ng, nt, nw, np, dn, pl, A, B, G, P, fr, h1, h2, h3, h4, h5, h6, h7, h8⟩ := h
  obtain ⟨hq1, hq2, hq3, hq4⟩ := h5
  have eM : i 37 5 = nI ng := h1.2.2.2.1.1
  have eC : i 3 1 = nI ng := h1.2.2.2.1.2.1
  have hng : ng ≤ 3 := h1.2.2.2.1.2.2
  rw [J_X11_print]
  rcases out_or y1 (n := ng) (by omega) with ho | ⟨g, hgl, rfl⟩
  · have kM : J_X12_print len r (fun q2 i2 j2 => -101 = q2 ∧ Rp (k + 5) i2) i j 37 y1 y2 y3 := by
      rw [J_X12_print, eM]
      exact gM_no ho (by omega) (bn_f rfl ⟨rfl, hR⟩)
    by_cases h0 : y1 < 0
    · exact ⟨fun _ => kM, fun h => absurd h0 h⟩
    · refine ⟨fun h => absurd h h0, fun _ => ⟨_, hg.1 _ (by decide) _ (by decide) _ rfl, ?_⟩⟩
      rw [eC]
      exact ⟨fun h => absurd h (Int32.not_lt.mpr (ho.resolve_left h0)), fun _ => kM⟩
  · refine ⟨fun h => absurd h (nI_pos (by omega)), fun _ => ⟨_, hg.1 _ (by decide) _ (by decide) _ rfl, ?_⟩⟩
    rw [eC]
    refine ⟨fun _ => ?_, fun h => absurd (nI_lt hgl (by omega)) h⟩
    rcases out_or y2 (n := 2) (by decide) with ho | ⟨w, hw, rfl⟩
    · refine gC_no (m := 1) (by decide) ho ⟨fun _ => ?_, fun h => absurd rfl h⟩
      rw [J_X11_print_L34, J_X12_print, eM]
      exact gM_yes hgl (by omega) (bn_t (by decide) (gM_noK (m := 1) ho (by decide) ⟨fun _ => ⟨rfl, hR⟩, fun h => absurd rfl h⟩))
    · refine gC_yes (m := 1) (by decide) (by omega) ⟨fun h => absurd h (by decide), fun _ => ?_⟩
      rcases out_or y3 (n := 2) (by decide) with ho | ⟨f, hf, rfl⟩
      · refine gC_no (m := 1) (by decide) ho (bn_f rfl ?_)
        rw [J_X11_print_L34, J_X12_print, eM]
        exact gM_yes hgl (by omega) (bn_t (by decide) (gM_yesK (m := 1) (by omega) (by decide) ⟨fun h => absurd h (by decide), fun _ => gM_noK (m := 1) ho (by decide) (bn_f rfl ⟨rfl, hR⟩)⟩))
      · refine gC_yes (m := 1) (by decide) (by omega) (bn_t (by decide) ?_)
        rw [hq2]
        by_cases hf6 : np < 6
        · refine ⟨fun _ => ⟨_, hg.1 _ (by decide) _ (by decide) _ rfl, ?_⟩, fun h => absurd ((n6 hq3).1.mpr hf6) h⟩
          rw [J_X11_printNumber, prC g (by omega) w hw f hf]
          have ec : (nI np).toNatClampNeg = np := nI_clamp (by omega)
          have hv : vp_in (nI np) 6 := vp_in_nI hf6 (by decide)
          refine ⟨by rw [hg.2 _ (by decide)]; exact hv, fun i1 e1 i2 e2 => ?_⟩
          rw [ec] at e1
          have z1 : i1 0 5 = nI np := by rw [e1, ju_ne (by decide)]; exact hq2
          rw [z1, nI_1] at e2
          have z2 : i2 37 5 = nI ng := by rw [e2, ju_ne (by decide), e1, ju_ne (by decide)]; exact eM
          have z3 : i2 37 12 = nI np := by rw [e2, ju_ne (by decide), e1, ju_ne (by decide)]; exact hq1
          have z4 : i2 0 5 = nI (np + 1) := by rw [e2, ju_eq]; simp [upd]
          rw [J_X12_print, z2, z4]
          refine gM_yes hgl (by omega) (bn_t (by decide) (gM_yesK (m := 1) (by omega) (by decide) ⟨fun h => absurd h (by decide), fun _ => gM_yesK (m := 1) (by omega) (by decide) (bn_t (by decide) ?_)⟩))
          rw [z3]
          refine bn_t (fun h => absurd ((n6 hq3).2.mp h) (by omega)) ⟨_, hg.1 _ (by decide) _ (by decide) _ rfl, by rw [hg.2 _ (by decide)]; exact hv, fun i3 e3 i4 e4 => ?_⟩
          rw [ec, prM g (by omega) w hw f hf] at e3
          have z5 : i3 37 12 = nI np := by rw [e3, ju_ne (by decide)]; exact z3
          rw [z5, nI_1] at e4
          subst e1
          subst e2
          subst e3
          subst e4
          refine ⟨by simp [ju, upd], ns, ng, nt, nw, np + 1, dn, pl, A, B, G, P, fr, h1.cong ⟨fun a ha => by rw [ju_ne (by omega), ju_ne (by omega), ju_ne (by omega), ju_ne (by omega)], by simp [ju, upd], by simp [ju, upd], by simp [ju, upd]⟩, (h2.cong ⟨by simp [ju, upd], by simp [ju, upd]⟩).up (by omega), h3, h4.cong ⟨fun a ha => by rw [ju_ne (by omega), ju_ne (by omega), ju_ne (by omega), ju_ne (by omega)], by simp [ju, upd], by simp [ju, upd]⟩, ⟨by simp [ju, upd], by simp [ju, upd], by omega, fun q hq => ?_⟩, h6.cong ⟨by simp [ju, upd], by simp [ju, upd]⟩, h7.cong ⟨by simp [ju, upd], by simp [ju, upd], by simp [ju, upd], by simp [ju, upd]⟩, h8.cong ⟨fun a ha => by rw [ju_ne (by omega), ju_ne (by omega), ju_ne (by omega), ju_ne (by omega)], by simp [ju, upd], by simp [ju, upd], by simp [ju, upd], by simp [ju, upd]⟩⟩
          by_cases hqn : q = np
          · subst hqn
            exact ⟨4 * g + 2 * w + f, by omega, by simp [ju, upd], by simp [ju, upd]⟩
          · obtain ⟨v, v1, v2, v3⟩ := hq4 q (by omega)
            exact ⟨v, v1, by simp [ju, upd, hqn, v2], by simp [ju, upd, hqn, v3]⟩
        · have e6 : np = 6 := by omega
          refine ⟨fun h => absurd ((n6 hq3).1.mp h) hf6, fun _ => ?_⟩
          rw [J_X12_print, eM]
          refine gM_yes hgl (by omega) (bn_t (by decide) (gM_yesK (m := 1) (by omega) (by decide) ⟨fun h => absurd h (by decide), fun _ => gM_yesK (m := 1) (by omega) (by decide) (bn_t (by decide) ?_)⟩))
          rw [hq1]
          exact bn_f ((n6 hq3).2.mpr e6) ⟨rfl, hR⟩
end Easy3
