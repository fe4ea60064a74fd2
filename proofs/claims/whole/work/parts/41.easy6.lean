section Easy6
variable {len : Nat → Nat} {r : jR} {i i' : jI} {j : jL} {k : Nat} {y1 y2 y3 y4 : Int32}
set_option maxHeartbeats 1000000 in
theorem ok_7 (hg : Gr r len) (h : Rp k i) : J_X11_about len r (fun q i1 j1 => J_X12_about len r (fun q2 i2 j2 => q = q2 ∧ Rp (k + 5) i2) i1 j1 37 y1 y2) i j 0 y1 y2 := by
  have hR := h.up (k2 := k + 5) (by omega)
  obtain ⟨ns, ng, nt, nw, np, dn, pl, A, B, G, P, fr, h1, h2, h3, h4, h5, h6, h7, h8⟩ := h
  obtain ⟨w1, w2, w3, w4⟩ := id h4
  rw [J_X11_about]
  rcases out_or y1 (n := nw) (by omega) with ho | ⟨w, hw, rfl⟩
  · refine wkC_no (by omega) w2 ho (bn_f rfl ?_)
    rw [J_X12_about]
    exact wkM_no (by omega) w1 ho (bn_f rfl ⟨rfl, hR⟩)
  · obtain ⟨kd, st, a1, a2, a3, a4, a5, a6, a7⟩ := w4 w hw
    have ec : (nI w).toNatClampNeg = w := nI_clamp (by omega)
    have hv : vp_in (nI w) 5 := vp_in_nI (by omega) (by decide)
    refine wkC_yes (by omega) w2 hw (bn_t (by decide) ⟨_, hg.1 _ (by decide) _ (by decide) _ rfl, by rw [hg.2 _ (by decide)]; exact hv, 32 + w, by rw [ec]; exact hg.1 9 (by decide) w (by omega) _ (RR9 w (by omega)), ?_⟩)
    rw [a4, a6, a7]
    have mk : ∀ (v : Int32) (a : Nat), a < 7 → J_X12_walkerNow len r (fun q25 i25 j25 => v = q25 ∧ Rp (k + 5) i25) i j 37 (nI w) (nI a) → J_X12_about len r (fun q2 i2 j2 => v = q2 ∧ Rp (k + 5) i2) i j 37 (nI w) (nI a) := by
      intro v a ha hh
      rw [J_X12_about]
      exact wkM_yes (by omega) w1 hw (bn_t (by decide) (gM_yesK (a := a) (m := 6) (by omega) (by decide) ⟨fun h => absurd h (by decide), fun _ => hh⟩))
    rcases out_or y2 (n := 7) (by decide) with ho | ⟨a, ha, rfl⟩
    · refine ⟨fun e => absurd e (out_ne ho (a := 0) (by decide) (by decide)), fun e => absurd e (out_ne ho (a := 1) (by decide) (by decide)), fun e => absurd e (out_ne ho (a := 2) (by decide) (by decide)), fun e => absurd e (out_ne ho (a := 3) (by decide) (by decide)), fun e => absurd e (out_ne ho (a := 4) (by decide) (by decide)), fun e => absurd e (out_ne ho (a := 5) (by decide) (by decide)), fun e => absurd e (out_ne ho (a := 6) (by decide) (by decide)), fun _ _ _ _ _ _ _ => ?_⟩
      rw [J_X12_about]
      exact wkM_yes (by omega) w1 hw (bn_t (by decide) (gM_noK (m := 6) ho (by decide) ⟨fun _ => ⟨rfl, hR⟩, fun h => absurd rfl h⟩))
    · rcases (show a = 0 ∨ a = 1 ∨ a = 2 ∨ a = 3 ∨ a = 4 ∨ a = 5 ∨ a = 6 by omega) with rfl | rfl | rfl | rfl | rfl | rfl | rfl
      · refine ⟨fun _ => ?_, fun h => absurd h (by decide), fun h => absurd h (by decide), fun h => absurd h (by decide), fun h => absurd h (by decide), fun h => absurd h (by decide), fun h => absurd h (by decide), fun h0 _ _ _ _ _ _ => absurd (by decide) h0⟩
        refine mk _ 0 (by decide) ?_
        rw [J_X12_walkerNow]
        refine ⟨fun _ => ⟨_, hg.1 _ (by decide) _ (by decide) _ rfl, by rw [hg.2 _ (by decide)]; exact hv, ?_⟩, fun h => absurd h (by decide), fun h => absurd h (by decide), fun h => absurd h (by decide), fun h0 _ _ _ => absurd (by decide) h0⟩
        rw [ec, a3]
        exact ⟨rfl, hR⟩
      · refine ⟨fun h => absurd h (by decide), fun _ => sp_placeOf a2 ?_, fun h => absurd h (by decide), fun h => absurd h (by decide), fun h => absurd h (by decide), fun h => absurd h (by decide), fun h => absurd h (by decide), fun _ h1 _ _ _ _ _ => absurd (by decide) h1⟩
        refine mk _ 1 (by decide) ?_
        rw [J_X12_walkerNow]
        refine ⟨fun h => absurd h (by decide), fun _ => ⟨_, hg.1 _ (by decide) _ (by decide) _ rfl, by rw [hg.2 _ (by decide)]; exact hv, ?_⟩, fun h => absurd h (by decide), fun h => absurd h (by decide), fun _ h1 _ _ => absurd (by decide) h1⟩
        rw [ec, a5]
        exact sp_placeIn a2 ⟨rfl, hR⟩
      · refine ⟨fun h => absurd h (by decide), fun h => absurd h (by decide), fun _ => sp_footOf a2 ?_, fun h => absurd h (by decide), fun h => absurd h (by decide), fun h => absurd h (by decide), fun h => absurd h (by decide), fun _ _ h2 _ _ _ _ => absurd (by decide) h2⟩
        refine mk _ 2 (by decide) ?_
        rw [J_X12_walkerNow]
        refine ⟨fun h => absurd h (by decide), fun h => absurd h (by decide), fun _ => ⟨_, hg.1 _ (by decide) _ (by decide) _ rfl, by rw [hg.2 _ (by decide)]; exact hv, ?_⟩, fun h => absurd h (by decide), fun _ _ h2 _ => absurd (by decide) h2⟩
        rw [ec, a5]
        exact sp_footIn a2 ⟨rfl, hR⟩
      · refine ⟨fun h => absurd h (by decide), fun h => absurd h (by decide), fun h => absurd h (by decide), fun _ => ?_, fun h => absurd h (by decide), fun h => absurd h (by decide), fun h => absurd h (by decide), fun _ _ _ h3 _ _ _ => absurd (by decide) h3⟩
        refine mk _ 3 (by decide) ?_
        rw [J_X12_walkerNow]
        refine ⟨fun h => absurd h (by decide), fun h => absurd h (by decide), fun h => absurd h (by decide), fun _ => ⟨_, hg.1 _ (by decide) _ (by decide) _ rfl, by rw [hg.2 _ (by decide)]; exact hv, ?_⟩, fun _ _ _ h3 => absurd (by decide) h3⟩
        rw [ec]
        exact ⟨rfl, hR⟩
      · refine ⟨fun h => absurd h (by decide), fun h => absurd h (by decide), fun h => absurd h (by decide), fun h => absurd h (by decide), fun _ => sp_markOf (g := 0) a2 (by decide) ?_, fun h => absurd h (by decide), fun h => absurd h (by decide), fun _ _ _ _ h4 _ _ => absurd (by decide) h4⟩
        refine mk _ 4 (by decide) ?_
        rw [J_X12_walkerNow]
        refine ⟨fun h => absurd h (by decide), fun h => absurd h (by decide), fun h => absurd h (by decide), fun h => absurd h (by decide), fun _ _ _ _ => ⟨_, hg.1 _ (by decide) _ (by decide) _ rfl, by rw [hg.2 _ (by decide)]; exact hv, ?_⟩⟩
        rw [ec, a5, show nI 4 - (4 : Int32) = nI 0 from by decide]
        exact sp_markIn a2 (by decide) ⟨rfl, hR⟩
      · refine ⟨fun h => absurd h (by decide), fun h => absurd h (by decide), fun h => absurd h (by decide), fun h => absurd h (by decide), fun h => absurd h (by decide), fun _ => sp_markOf (g := 1) a2 (by decide) ?_, fun h => absurd h (by decide), fun _ _ _ _ _ h5 _ => absurd (by decide) h5⟩
        refine mk _ 5 (by decide) ?_
        rw [J_X12_walkerNow]
        refine ⟨fun h => absurd h (by decide), fun h => absurd h (by decide), fun h => absurd h (by decide), fun h => absurd h (by decide), fun _ _ _ _ => ⟨_, hg.1 _ (by decide) _ (by decide) _ rfl, by rw [hg.2 _ (by decide)]; exact hv, ?_⟩⟩
        rw [ec, a5, show nI 5 - (4 : Int32) = nI 1 from by decide]
        exact sp_markIn a2 (by decide) ⟨rfl, hR⟩
      · refine ⟨fun h => absurd h (by decide), fun h => absurd h (by decide), fun h => absurd h (by decide), fun h => absurd h (by decide), fun h => absurd h (by decide), fun h => absurd h (by decide), fun _ => sp_markOf (g := 2) a2 (by decide) ?_, fun _ _ _ _ _ _ h6 => absurd (by decide) h6⟩
        refine mk _ 6 (by decide) ?_
        rw [J_X12_walkerNow]
        refine ⟨fun h => absurd h (by decide), fun h => absurd h (by decide), fun h => absurd h (by decide), fun h => absurd h (by decide), fun _ _ _ _ => ⟨_, hg.1 _ (by decide) _ (by decide) _ rfl, by rw [hg.2 _ (by decide)]; exact hv, ?_⟩⟩
        rw [ec, a5, show nI 6 - (4 : Int32) = nI 2 from by decide]
        exact sp_markIn a2 (by decide) ⟨rfl, hR⟩
theorem ofC : ∀ p, p < 7 → ∀ f, f < 2 → (((nI p * (2 : Int32)) + nI f) * (64 : Int32)) + (0 : Int32) = nI (enc (p + 7 * f)) := by decide +kernel
theorem ofM : ∀ p, p < 7 → ∀ f, f < 2 → nI p + ((7 : Int32) * nI f) = nI (p + 7 * f) := by decide +kernel
theorem townC_no {Q : Int32 → jI → jL → Prop} (hg : Gr r len) (e : i 3 0 = nI 0) (hQ : Q 0 i j) : J_X11_hasTown len r Q i j 0 := by
  rw [J_X11_hasTown]
  refine ⟨_, hg.1 _ (by decide) _ (by decide) _ rfl, ?_⟩
  rw [e]
  exact ⟨fun _ => hQ, fun h => absurd (by decide) h⟩
theorem townC_yes {Q : Int32 → jI → jL → Prop} {n : Nat} (hg : Gr r len) (e : i 3 0 = nI n) (h0 : 0 < n) (hn : n < 2 ^ 31) (hQ : Q 1 i j) : J_X11_hasTown len r Q i j 0 := by
  rw [J_X11_hasTown]
  refine ⟨_, hg.1 _ (by decide) _ (by decide) _ rfl, ?_⟩
  rw [e]
  exact ⟨fun h => absurd h (nI_nle h0 hn), fun _ => hQ⟩
set_option maxHeartbeats 1000000 in
theorem ok_6 (hk : k ≤ 2560) (hg : Gr r len) (h : Rp k i) : J_X11_walker len r (fun q i1 j1 => J_X12_walker len r (fun q2 i2 j2 => q = q2 ∧ Rp (k + 5) i2) i1 j1 37 y1 y2 y3) i j 0 y1 y2 y3 := by
  have hR := h.up (k2 := k + 5) (by omega)
  obtain ⟨ns, ng, nt, nw, np, dn, pl, A, B, G, P, fr, h1, h2, h3, h4, h5, h6, h7, h8⟩ := h
  obtain ⟨w1, w2, w3, w4⟩ := id h4
  have hn : ns ≤ 10 := h1.1.2.1
  rw [J_X11_walker]
  rcases out_or y2 (n := 7) (by decide) with ho | ⟨p, hp, rfl⟩
  · refine plC_no ho (bn_f rfl ?_)
    rw [J_X12_walker]
    exact plM_no ho (bn_f rfl ⟨rfl, hR⟩)
  refine plC_yes hp (bn_t (by decide) ?_)
  rcases out_or y1 (n := 5) (by decide) with ho | ⟨kd, hkd, rfl⟩
  · refine kdC_no ho ⟨fun _ => ?_, fun h => absurd rfl h⟩
    rw [J_X11_walker_L25, J_X12_walker]
    exact plM_yes hp (bn_t (by decide) (gM_noK (m := 4) ho (by decide) ⟨fun _ => ⟨rfl, hR⟩, fun h => absurd rfl h⟩))
  refine kdC_yes hkd ⟨fun h => absurd h (by decide), fun _ => ?_⟩
  rcases out_or y3 (n := 2) (by decide) with ho | ⟨f, hf, rfl⟩
  · refine gC_no (m := 1) (by decide) ho (bn_f rfl ?_)
    rw [J_X11_walker_L25, J_X12_walker]
    exact plM_yes hp (bn_t (by decide) (gM_yesK (m := 4) (by omega) (by decide) ⟨fun h => absurd h (by decide), fun _ => gM_noK (m := 1) ho (by decide) (bn_f rfl ⟨rfl, hR⟩)⟩))
  refine gC_yes (m := 1) (by decide) (by omega) (bn_t (by decide) ?_)
  have mk : ∀ (v : Int32) (i1 : jI) (j1 : jL), (((¬ (i1 37 7) = 0) → (((¬ (i1 37 8) = (5 : Int32)) → (∃ a53, r 37 9 = some a53 ∧ (vp_in (i1 37 8) (len a53) ∧ ∀ i61 : jI, i61 = ju i1 a53 (i1 37 8).toNatClampNeg (nI kd) → (∃ a63, r 37 10 = some a63 ∧ (vp_in (i61 37 8) (len a63) ∧ ∀ i76 : jI, i76 = ju i61 a63 (i61 37 8).toNatClampNeg (nI p + ((7 : Int32) * nI f)) → (∃ a78, r 37 11 = some a78 ∧ (vp_in (i76 37 8) (len a78) ∧ ∀ i86 : jI, i86 = ju i76 a78 (i76 37 8).toNatClampNeg (0 : Int32) → (∀ i94 : jI, i94 = ju i86 37 8 ((i86 37 8) + (1 : Int32)) → (v = ((i94 37 8) - (1 : Int32)) ∧ Rp (k + 5) i94))))))))) ∧ (((i1 37 8) = (5 : Int32)) → (v = -104 ∧ Rp (k + 5) i1)))) ∧ (((i1 37 7) = 0) → (v = -103 ∧ Rp (k + 5) i1))) → J_X12_walker len r (fun q2 i2 j2 => v = q2 ∧ Rp (k + 5) i2) i1 j1 37 (nI kd) (nI p) (nI f) := by
    intro v i1 j1 hh
    rw [J_X12_walker]
    exact plM_yes hp (bn_t (by decide) (gM_yesK (m := 4) (by omega) (by decide) ⟨fun h => absurd h (by decide), fun _ => gM_yesK (m := 1) (by omega) (by decide) (bn_t (by decide) hh)⟩))
  obtain ⟨n1, n2, n3, n4⟩ := h2
  have hnt : nt = 0 ∨ 0 < nt := by omega
  rcases hnt with hnt | hnt
  · have hns : ns = 0 := n4.mp hnt
    subst hns
    refine townC_no hg h1.2.1.1 (bn_f rfl (mk _ _ _ ?_))
    rw [n1, hnt]
    exact bn_f (by decide) ⟨rfl, hR⟩
  have hns : 0 < ns := by
    rcases Nat.eq_zero_or_pos ns with h | h
    · exact absurd (n4.mpr h) (by omega)
    · exact h
  have hz : ¬ nI nt = 0 := nI_ne0 hnt (by omega)
  refine townC_yes hg h1.2.1.1 hns (by omega) (bn_t (by decide) ?_)
  rw [w2]
  by_cases h5w : nw < 5
  · have ec : (nI nw).toNatClampNeg = nw := nI_clamp (by omega)
    have hv : vp_in (nI nw) 5 := vp_in_nI h5w (by decide)
    refine ⟨fun _ => ⟨_, hg.1 _ (by decide) _ (by decide) _ rfl, by rw [hg.2 _ (by decide)]; exact hv, 32 + nw, by rw [ec]; exact hg.1 9 (by decide) nw (by omega) _ (RR9 nw h5w), fun i1 e1 => ?_⟩, fun h => absurd ((n5 w3).1.mpr h5w) h⟩
    rw [J_X7_of, ofC p hp f hf]
    intro i2 e2 i3 e3 i4 e4
    have q3 : ∀ c, c ≠ 32 + nw → i3 c = i c := fun c hc => by rw [e3, ju_ne hc, e2, ju_ne hc, e1, ju_ne hc]
    have f32 : i3 (32 + nw) = upd (upd (upd (i (32 + nw)) 0 (nI kd)) 1 (nI (enc (p + 7 * f)))) 2 0 := by rw [e3, ju_eq, e2, ju_eq, e1, ju_eq]
    rw [q3 0 (by omega), w2, nI_1] at e4
    have g0 : i4 0 3 = nI (nw + 1) := by rw [e4, ju_eq]; simp [upd]
    have q4 : ∀ c, c ≠ 32 + nw → c ≠ 0 → i4 c = i c := fun c hc hd => by rw [e4, ju_ne hd, q3 c hc]
    rw [g0, nI_pred]
    refine mk _ _ _ ?_
    rw [q4 37 (by omega) (by decide), n1, w1]
    refine bn_t hz (bn_t (fun h => absurd ((n5 w3).2.mp h) (by omega)) ⟨_, hg.1 _ (by decide) _ (by decide) _ rfl, by rw [hg.2 _ (by decide)]; exact hv, fun i5 e5 => ?_⟩)
    have z5 : i5 37 8 = nI nw := by rw [e5, ju_ne (by decide), q4 37 (by omega) (by decide)]; exact w1
    rw [z5]
    refine ⟨_, hg.1 _ (by decide) _ (by decide) _ rfl, by rw [hg.2 _ (by decide)]; exact hv, fun i6 e6 => ?_⟩
    have z6 : i6 37 8 = nI nw := by rw [e6, ju_ne (by decide)]; exact z5
    rw [z6]
    refine ⟨_, hg.1 _ (by decide) _ (by decide) _ rfl, by rw [hg.2 _ (by decide)]; exact hv, fun i7 e7 i8 e8 => ?_⟩
    have z7 : i7 37 8 = nI nw := by rw [e7, ju_ne (by decide)]; exact z6
    rw [z7, nI_1] at e8
    rw [ec] at e5 e6 e7
    rw [ofM p hp f hf] at e6
    have z8 : i8 37 8 = nI (nw + 1) := by rw [e8, ju_eq]; simp [upd]
    rw [z8, nI_pred]
    have q8 : ∀ c, c ≠ 32 + nw → c ≠ 0 → c ≠ 37 → c ≠ 42 → c ≠ 43 → c ≠ 44 → i8 c = i c := fun c c1 c2 c3 c4 c5 c6 => by rw [e8, ju_ne c3, e7, ju_ne c6, e6, ju_ne c5, e5, ju_ne c4, q4 c c1 c2]
    have g37 : i8 37 = upd (i 37) 8 (nI (nw + 1)) := by rw [e8, ju_eq, e7, ju_ne (by decide), e6, ju_ne (by decide), e5, ju_ne (by decide), q4 37 (by omega) (by decide)]
    have g00' : i8 0 = upd (i 0) 3 (nI (nw + 1)) := by rw [e8, ju_ne (by decide), e7, ju_ne (by decide), e6, ju_ne (by decide), e5, ju_ne (by decide), e4, ju_eq, q3 0 (by omega)]
    have g42 : i8 42 = upd (i 42) nw (nI kd) := by rw [e8, ju_ne (by decide), e7, ju_ne (by decide), e6, ju_ne (by decide), e5, ju_eq, q4 42 (by omega) (by decide)]
    have g43 : i8 43 = upd (i 43) nw (nI (p + 7 * f)) := by rw [e8, ju_ne (by decide), e7, ju_ne (by decide), e6, ju_eq, e5, ju_ne (by decide), q4 43 (by omega) (by decide)]
    have g44 : i8 44 = upd (i 44) nw 0 := by rw [e8, ju_ne (by decide), e7, ju_eq, e6, ju_ne (by decide), e5, ju_ne (by decide), q4 44 (by omega) (by decide)]
    have g32 : i8 (32 + nw) = upd (upd (upd (i (32 + nw)) 0 (nI kd)) 1 (nI (enc (p + 7 * f)))) 2 0 := by rw [e8, ju_ne (by omega), e7, ju_ne (by omega), e6, ju_ne (by omega), e5, ju_ne (by omega), e4, ju_ne (by omega)]; exact f32
    refine ⟨rfl, ns, ng, nt, nw + 1, np, dn, pl, A, B, G, P, fr, h1.cong ⟨fun a ha => q8 a (by omega) (by omega) (by omega) (by omega) (by omega) (by omega), by rw [g37]; simp [upd], by rw [g37]; simp [upd], by rw [g37]; simp [upd]⟩, ⟨by rw [g37]; simp [upd]; exact n1, by rw [g00']; simp [upd]; exact n2, by omega, n4⟩, fun _ => hns, ⟨by rw [g37]; simp [upd], by rw [g00']; simp [upd], by omega, fun z hz' => ?_⟩, h5.cong ⟨q8 45 (by omega) (by decide) (by decide) (by decide) (by decide) (by decide), q8 10 (by omega) (by decide) (by decide) (by decide) (by decide) (by decide), by rw [g37]; simp [upd], by rw [g00']; simp [upd]⟩, h6.cong ⟨by rw [g37]; simp [upd], by rw [g00']; simp [upd]⟩, h7.cong ⟨q8 46 (by omega) (by decide) (by decide) (by decide) (by decide) (by decide), q8 2 (by omega) (by decide) (by decide) (by decide) (by decide) (by decide), by rw [g37]; simp [upd], by rw [q8 1 (by omega) (by decide) (by decide) (by decide) (by decide) (by decide)]⟩, ?_⟩
    · by_cases hzn : z = nw
      · subst hzn
        exact ⟨kd, p + 7 * f, hkd, by omega, by rw [g42]; simp [upd], by rw [g32]; simp [upd], by rw [g43]; simp [upd], by rw [g32]; simp [upd], by rw [g32, g44]; simp [upd]⟩
      · obtain ⟨kd', st', b1, b2, b3, b4, b5, b6, b7⟩ := w4 z (by omega)
        have hq : i8 (32 + z) = i (32 + z) := q8 (32 + z) (by omega) (by omega) (by omega) (by omega) (by omega) (by omega)
        exact ⟨kd', st', b1, b2, by rw [g42]; simp [upd, hzn, b3], by rw [hq]; exact b4, by rw [g43]; simp [upd, hzn, b5], by rw [hq]; exact b6, by rw [hq, g44]; simp [upd, hzn]; exact b7⟩
    · have h8' : RI i8 ns ng nt nw := h8.cong ⟨fun a ha => q8 a (by omega) (by omega) (by omega) (by omega) (by omega) (by omega), by rw [g37]; simp [upd], by rw [g37]; simp [upd], by rw [g37]; simp [upd], by rw [g37]; simp [upd]⟩
      rcases h8' with h | ⟨kt, h1, h2, h3, h4, h5, h6⟩
      · exact Or.inl h
      · refine Or.inr ⟨kt, h1, h2, h3, h4, h5, fun e => ?_⟩
        obtain ⟨kw, kp, x1, x2⟩ := h6 e
        exact ⟨kw, kp, by omega, x2⟩
  · have e5 : nw = 5 := by omega
    refine ⟨fun h => absurd ((n5 w3).1.mp h) h5w, fun _ => mk _ _ _ ?_⟩
    rw [n1, w1]
    exact bn_t hz (bn_f ((n5 w3).2.mpr e5) ⟨rfl, hR⟩)
end Easy6
