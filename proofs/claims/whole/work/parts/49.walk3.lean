section WalkD
variable {len : Nat → Nat} {r : jR} {i : jI} {j : jL} {k : Nat} {y1 y2 y3 y4 : Int32}
set_option maxHeartbeats 1000000 in
theorem ok_24 (hg : Gr r len) (h : Rp k i) : J_X11_walk len r (fun q i1 j1 => J_X12_walk len r (fun q2 i2 j2 => q = q2 ∧ Rp (k + 5) i2) i1 j1 37 y1 y2 y3 y4) i j 0 y1 y2 y3 y4 := by
  have hR := h.up (k2 := k + 5) (by omega)
  obtain ⟨ns, ng, nt, nw, np, dn, pl, A, B, G, P, fr, h1, h2, h3, h4, h5, h6, h7, h8⟩ := h
  obtain ⟨w1, w2, w3, w4⟩ := id h4
  rw [J_X11_walk]
  rcases out_or y1 (n := nw) (by omega) with ho | ⟨w, hw, rfl⟩
  · refine wkC_no (by omega) w2 ho (bn_f rfl ?_)
    rw [J_X12_walk]
    exact wkM_no (by omega) w1 ho (bn_f rfl ⟨rfl, hR⟩)
  obtain ⟨kd, st, a1, a2, a3, a4, a5, a6, a7⟩ := w4 w hw
  have ec : (nI w).toNatClampNeg = w := nI_clamp (by omega)
  have hv : vp_in (nI w) 5 := vp_in_nI (by omega) (by decide)
  refine wkC_yes (by omega) w2 hw (bn_t (by decide) ?_)
  have bad : (y2 < 1 ∨ 60 < y2 ∨ y3 < 0 ∨ Out y4 4) → J_X12_walk len r (fun q2 i2 j2 => -102 = q2 ∧ Rp (k + 5) i2) i j 37 (nI w) y2 y3 y4 := by
    intro hb
    rw [J_X12_walk]
    refine wkM_yes (by omega) w1 hw (bn_t (by decide) ?_)
    rw [J_X12_within]
    by_cases b1 : y2 < 1
    · exact ⟨fun _ => ⟨fun _ => ⟨rfl, hR⟩, fun hh => absurd rfl hh⟩, fun hh => absurd b1 hh⟩
    refine ⟨fun hh => absurd hh b1, fun _ => ?_⟩
    by_cases b2 : 60 < y2
    · exact ⟨fun _ => ⟨fun _ => ⟨rfl, hR⟩, fun hh => absurd rfl hh⟩, fun hh => absurd b2 hh⟩
    refine ⟨fun hh => absurd hh b2, fun _ => ⟨fun hh => absurd hh (by decide), fun _ => ?_⟩⟩
    by_cases b3 : y3 < 0
    · exact ⟨fun _ => ⟨rfl, hR⟩, fun hh => absurd b3 hh⟩
    refine ⟨fun hh => absurd hh b3, fun _ => ?_⟩
    exact gM_noK (m := 3) ((hb.resolve_left b1).resolve_left b2 |>.resolve_left b3) (by decide) (bn_f rfl ⟨rfl, hR⟩)
  by_cases b1 : y2 < 1
  · exact ⟨fun _ => bad (Or.inl b1), fun hh => absurd b1 hh⟩
  refine ⟨fun hh => absurd hh b1, fun _ => ?_⟩
  by_cases b2 : 60 < y2
  · exact ⟨fun _ => bad (Or.inr (Or.inl b2)), fun hh => absurd b2 hh⟩
  refine ⟨fun hh => absurd hh b2, fun _ => ?_⟩
  by_cases b3 : y3 < 0
  · exact ⟨fun _ => bad (Or.inr (Or.inr (Or.inl b3))), fun hh => absurd b3 hh⟩
  refine ⟨fun hh => absurd hh b3, fun _ => ?_⟩
  rcases out_or y4 (n := 4) (by decide) with ho | ⟨a, ha, rfl⟩
  · exact gC_no (m := 3) (by decide) ho (bn_f rfl (bad (Or.inr (Or.inr (Or.inr ho)))))
  obtain ⟨d, hd, rfl⟩ := nI_of b3
  rcases w60 y2 with ⟨hx, -⟩ | ⟨tn, ht1, ht2, rfl⟩
  · exact absurd hx (fun hx => hx.elim b1 b2)
  refine gC_yes (m := 3) (by decide) (by omega) (bn_t (by decide) ⟨_, hg.1 _ (by decide) _ (by decide) _ rfl, by rw [hg.2 _ (by decide)]; exact hv, 32 + w, by rw [ec]; exact hg.1 9 (by decide) w (by omega) _ (RR9 w (by omega)), fun v e => ?_⟩)
  rw [a6] at e
  subst e
  refine ⟨tn + 1, lp_walkC hg h1.2.1 a1 a4 ha ht2 tn 0 st d 0 (by omega) a2 hd ?_⟩
  rw [J_X12_walk]
  refine wkM_yes (by omega) w1 hw (bn_t (by decide) ?_)
  rw [J_X12_within]
  refine ⟨fun hh => absurd hh b1, fun _ => ⟨fun hh => absurd hh b2, fun _ => ⟨fun hh => absurd hh (by decide), fun _ => ⟨fun hh => absurd hh b3, fun _ => gM_yesK (m := 3) (by omega) (by decide) (bn_t (by decide) ?_)⟩⟩⟩⟩
  rw [J_X12_walkNow]
  intro j3 e3
  refine ⟨_, hg.1 _ (by decide) _ (by decide) _ rfl, by rw [hg.2 _ (by decide)]; exact hv, fun v e => ?_⟩
  rw [ec, a5] at e
  subst e
  have ej : j3 37 41 = lN d := by rw [e3, jul_eq, nI_l hd]; simp [vp_updL]
  exact ⟨tn + 1, lp_walkM hg h1.1 a1 (by omega) a3 ha ht2 tn 0 st d 0 j3 (by omega) a2 hd ej (fun j' => ⟨rfl, hR⟩)⟩
end WalkD
