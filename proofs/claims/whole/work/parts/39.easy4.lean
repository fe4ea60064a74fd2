theorem RR9 : ∀ w, w < 5 → RR 9 w = some (32 + w) := by decide +kernel
section Easy4
variable {len : Nat → Nat} {r : jR} {i : jI} {j : jL} {k : Nat} {y1 y2 y3 y4 : Int32}
set_option maxHeartbeats 1000000 in
theorem ok_8 (hg : Gr r len) (h : Rp k i) : J_X11_as len r (fun q i1 j1 => J_X12_as len r (fun q2 i2 j2 => q = q2 ∧ Rp (k + 5) i2) i1 j1 37 y1 y2) i j 0 y1 y2 := by
  have hR := h.up (k2 := k + 5) (by omega)
  obtain ⟨ns, ng, nt, nw, np, dn, pl, A, B, G, P, fr, h1, h2, h3, h4, h5, h6, h7, h8⟩ := h
  obtain ⟨w1, w2, w3, w4⟩ := h4
  rw [J_X11_as]
  rcases out_or y1 (n := nw) (by omega) with ho | ⟨w, hw, rfl⟩
  · refine wkC_no (by omega) w2 ho (bn_f rfl ?_)
    rw [J_X12_as]
    exact wkM_no (by omega) w1 ho (bn_f rfl ⟨rfl, hR⟩)
  · obtain ⟨kd, st, a1, a2, a3, a4, a5, a6, a7⟩ := w4 w hw
    have ec : (nI w).toNatClampNeg = w := nI_clamp (by omega)
    have hv : vp_in (nI w) 5 := vp_in_nI (by omega) (by decide)
    refine wkC_yes (by omega) w2 hw (bn_t (by decide) ?_)
    rcases out_or y2 (n := 5) (by decide) with ho | ⟨c, hc, rfl⟩
    · refine kdC_no ho (bn_f rfl ?_)
      rw [J_X12_as]
      exact wkM_yes (by omega) w1 hw (bn_t (by decide) (gM_noK (m := 4) ho (by decide) (bn_f rfl ⟨rfl, hR⟩)))
    · refine kdC_yes hc (bn_t (by decide) ⟨_, hg.1 _ (by decide) _ (by decide) _ rfl, by rw [hg.2 _ (by decide)]; exact hv, 32 + w, by rw [ec]; exact hg.1 9 (by decide) w (by omega) _ (RR9 w (by omega)), ?_⟩)
      rw [J_X9_isOf, a4]
      have mk : ∀ v : Int32, (((nI c = 0) → (v = nI w ∧ Rp (k + 5) i)) ∧ ((¬ nI c = 0) → (((nI kd = nI c) → (v = nI w ∧ Rp (k + 5) i)) ∧ ((¬ nI kd = nI c) → (((¬ nI c = 2) → (v = -1 ∧ Rp (k + 5) i)) ∧ ((nI c = 2) → (((¬ nI kd = 4) → (v = -1 ∧ Rp (k + 5) i)) ∧ ((nI kd = 4) → (v = nI w ∧ Rp (k + 5) i))))))))) → J_X12_as len r (fun q2 i2 j2 => v = q2 ∧ Rp (k + 5) i2) i j 37 (nI w) (nI c) := by
        intro v hc'
        rw [J_X12_as]
        refine wkM_yes (by omega) w1 hw (bn_t (by decide) (gM_yesK (m := 4) (by omega) (by decide) (bn_t (by decide) ⟨_, hg.1 _ (by decide) _ (by decide) _ rfl, by rw [hg.2 _ (by decide)]; exact hv, fun v29 e => ?_⟩)))
        rw [ec, a3] at e
        subst e
        exact hc'
      by_cases b1 : nI c = 0
      · refine ⟨fun _ => ⟨fun h => absurd h (by decide), fun _ => mk _ ⟨fun _ => ⟨rfl, hR⟩, fun h => absurd b1 h⟩⟩, fun h => absurd b1 h⟩
      refine ⟨fun h => absurd h b1, fun _ => ?_⟩
      by_cases b2 : nI c = nI kd
      · exact ⟨fun _ => ⟨fun h => absurd h (by decide), fun _ => mk _ ⟨fun h => absurd h b1, fun _ => ⟨fun _ => ⟨rfl, hR⟩, fun h => absurd b2.symm h⟩⟩⟩, fun h => absurd b2 h⟩
      refine ⟨fun h => absurd h b2, fun _ => ?_⟩
      by_cases b3 : nI c = 2
      · refine ⟨fun h => absurd b3 h, fun _ => ?_⟩
        by_cases b4 : nI kd = 4
        · exact ⟨fun h => absurd b4 h, fun _ => ⟨fun h => absurd h (by decide), fun _ => mk _ ⟨fun h => absurd h b1, fun _ => ⟨fun h => absurd h.symm b2, fun _ => ⟨fun h => absurd b3 h, fun _ => ⟨fun h => absurd b4 h, fun _ => ⟨rfl, hR⟩⟩⟩⟩⟩⟩⟩
        · exact ⟨fun _ => ⟨fun _ => mk _ ⟨fun h => absurd h b1, fun _ => ⟨fun h => absurd h.symm b2, fun _ => ⟨fun h => absurd b3 h, fun _ => ⟨fun _ => ⟨rfl, hR⟩, fun h => absurd h b4⟩⟩⟩⟩, fun h => absurd rfl h⟩, fun h => absurd h b4⟩
      · exact ⟨fun _ => ⟨fun _ => mk _ ⟨fun h => absurd h b1, fun _ => ⟨fun h => absurd h.symm b2, fun _ => ⟨fun _ => ⟨rfl, hR⟩, fun h => absurd h b3⟩⟩⟩, fun h => absurd rfl h⟩, fun h => absurd h b3⟩
set_option maxHeartbeats 1000000 in
theorem ok_9 (hg : Gr r len) (h : Rp k i) : J_X11_steps len r (fun q i1 j1 => J_X12_steps len r (fun q2 i2 j2 => q = q2 ∧ Rp (k + 5) i2) i1 j1 37 y1 y2) i j 0 y1 y2 := by
  have hR := h.up (k2 := k + 5) (by omega)
  obtain ⟨ns, ng, nt, nw, np, dn, pl, A, B, G, P, fr, h1, h2, h3, h4, h5, h6, h7, h8⟩ := h
  obtain ⟨w1, w2, w3, w4⟩ := h4
  have hn : ns ≤ 10 := h1.1.2.1
  rw [J_X11_steps]
  rcases out_or y1 (n := nw) (by omega) with ho | ⟨w, hw, rfl⟩
  · refine wkC_no (by omega) w2 ho ⟨fun _ => ?_, fun h => absurd rfl h⟩
    rw [J_X11_steps_L16, J_X12_steps]
    exact wkM_no (by omega) w1 ho ⟨fun _ => ⟨rfl, hR⟩, fun h => absurd rfl h⟩
  · obtain ⟨kd, st, a1, a2, a3, a4, a5, a6, a7⟩ := w4 w hw
    have ec : (nI w).toNatClampNeg = w := nI_clamp (by omega)
    have hv : vp_in (nI w) 5 := vp_in_nI (by omega) (by decide)
    refine wkC_yes (by omega) w2 hw ⟨fun h => absurd h (by decide), fun _ => ?_⟩
    rcases out_or y2 (n := ns) (by omega) with ho | ⟨s, hs, rfl⟩
    · refine stC_no hg (by omega) h1.2.1.1 ho (bn_f rfl ?_)
      rw [J_X11_steps_L16, J_X12_steps]
      exact wkM_yes (by omega) w1 hw ⟨fun h => absurd h (by decide), fun _ => stM_no (by omega) h1.1.1 ho ⟨fun _ => ⟨rfl, hR⟩, fun h => absurd rfl h⟩⟩
    · have es : (nI s).toNatClampNeg = s := nI_clamp (by omega)
      have hs10 : vp_in (nI s) 10 := vp_in_nI (by omega) (by decide)
      obtain ⟨⟨m0, m1, m2, m3⟩, -, -, -, mP, -⟩ := h1.1.2.2.2 s hs
      obtain ⟨⟨c0, c1, c2, c3⟩, -⟩ := h1.2.1.2.2.2 s hs
      refine stC_yes hg (by omega) h1.2.1.1 hs (bn_t (by decide) ⟨_, hg.1 _ (by decide) _ (by decide) _ rfl, by rw [hg.2 _ (by decide)]; exact hv, 32 + w, by rw [ec]; exact hg.1 9 (by decide) w (by omega) _ (RR9 w (by omega)), _, hg.1 _ (by decide) _ (by decide) _ rfl, _, hg.1 _ (by decide) _ (by decide) _ rfl, by rw [hg.2 _ (by decide)]; exact hs10, ?_⟩)
      rw [es, a4, c2]
      refine sp_stepsOf a1 (by omega) ?_
      rw [J_X12_steps]
      refine wkM_yes (by omega) w1 hw ⟨fun h => absurd h (by decide), fun _ => stM_yes (by omega) h1.1.1 hs ⟨fun h => absurd h (by decide), fun _ => ⟨_, hg.1 _ (by decide) _ (by decide) _ rfl, by rw [hg.2 _ (by decide)]; exact hv, _, hg.1 _ (by decide) _ (by decide) _ rfl, by rw [hg.2 _ (by decide)]; exact hs10, ?_⟩⟩⟩
      rw [ec, es, a3, m2]
      exact sp_stepsBy a1 (by omega) ⟨rfl, hR⟩
/-- a walker's step, on the class's side -/
theorem sp_standBehind {Q : Int32 → jI → jL → Prop} {ns s w kd st : Nat} {A B G P : Nat → Nat} {fr : Bool} (hg : Gr r len) (tc : TC i ns A B G P fr) (hk : kd < 5) (hst : st < 378) (hs : s < ns) (e0 : i (32 + w) 0 = nI kd) (e1 : i (32 + w) 1 = nI (enc st)) (hQ : Q (eo (mbeh A B G (fun s => mturn kd (P s)) fr st s)) i j) : J_X11_standBehind len r Q i j 0 (32 + w) (nI s) := by
  have hn := tc.2.1
  obtain ⟨⟨c0, c1, c2, c3⟩, -, -, -, cP, -⟩ := tc.2.2.2 s hs
  have es : (nI s).toNatClampNeg = s := nI_clamp (by omega)
  have hs10 : vp_in (nI s) 10 := vp_in_nI (by omega) (by decide)
  rw [J_X11_standBehind]
  refine ⟨_, hg.1 _ (by decide) _ (by decide) _ rfl, _, hg.1 _ (by decide) _ (by decide) _ rfl, _, hg.1 _ (by decide) _ (by decide) _ rfl, by rw [hg.2 _ (by decide)]; exact hs10, ?_⟩
  rw [es, e0, e1, c2]
  exact sp_turnOf hk (by omega) (sp_behC hg tc (mtn_lt _ _) hst hs hQ)
theorem eo_none {o : Option Nat} (h : ∀ st, o = some st → st < 378) : (eo o = (-1 : Int32) ↔ o = none) ∧ (so o = (-1 : Int32) ↔ o = none) := by
  cases o with
  | none => exact ⟨⟨fun _ => rfl, fun _ => rfl⟩, ⟨fun _ => rfl, fun _ => rfl⟩⟩
  | some st =>
    have hs := h st rfl
    have he := enc_lt st hs
    have k1 : ∀ n : Nat, n < 1000 → ¬ nI n = (-1 : Int32) := by decide +kernel
    exact ⟨⟨fun h => absurd h (k1 _ (by omega)), fun h => by cases h⟩, ⟨fun h => absurd h (k1 _ (by omega)), fun h => by cases h⟩⟩
set_option maxHeartbeats 1000000 in
theorem ok_10 (hg : Gr r len) (h : Rp k i) : J_X11_may len r (fun q i1 j1 => J_X12_may len r (fun q2 i2 j2 => q = q2 ∧ Rp (k + 5) i2) i1 j1 37 y1 y2) i j 0 y1 y2 := by
  have hR := h.up (k2 := k + 5) (by omega)
  obtain ⟨ns, ng, nt, nw, np, dn, pl, A, B, G, P, fr, h1, h2, h3, h4, h5, h6, h7, h8⟩ := h
  obtain ⟨w1, w2, w3, w4⟩ := h4
  have hn : ns ≤ 10 := h1.1.2.1
  rw [J_X11_may]
  rcases out_or y1 (n := nw) (by omega) with ho | ⟨w, hw, rfl⟩
  · refine wkC_no (by omega) w2 ho ⟨fun _ => ?_, fun h => absurd rfl h⟩
    rw [J_X11_may_L16, J_X12_may]
    exact wkM_no (by omega) w1 ho ⟨fun _ => ⟨rfl, hR⟩, fun h => absurd rfl h⟩
  · obtain ⟨kd, st, a1, a2, a3, a4, a5, a6, a7⟩ := w4 w hw
    have ec : (nI w).toNatClampNeg = w := nI_clamp (by omega)
    have hv : vp_in (nI w) 5 := vp_in_nI (by omega) (by decide)
    refine wkC_yes (by omega) w2 hw ⟨fun h => absurd h (by decide), fun _ => ?_⟩
    rcases out_or y2 (n := ns) (by omega) with ho | ⟨s, hs, rfl⟩
    · refine stC_no hg (by omega) h1.2.1.1 ho (bn_f rfl ?_)
      rw [J_X11_may_L16, J_X12_may]
      exact wkM_yes (by omega) w1 hw ⟨fun h => absurd h (by decide), fun _ => stM_no (by omega) h1.1.1 ho (bn_f rfl ⟨rfl, hR⟩)⟩
    · obtain ⟨-, mA, mB, -, -, mG⟩ := h1.1.2.2.2 s hs
      have hb := fun st2 hh => mbeh_lt (T := fun s => mturn kd (P s)) (fr := fr) (st2 := st2) a2 mA mB mG hh
      obtain ⟨o1, o2⟩ := eo_none hb
      refine stC_yes hg (by omega) h1.2.1.1 hs (bn_t (by decide) ⟨_, hg.1 _ (by decide) _ (by decide) _ rfl, by rw [hg.2 _ (by decide)]; exact hv, 32 + w, by rw [ec]; exact hg.1 9 (by decide) w (by omega) _ (RR9 w (by omega)), _, hg.1 _ (by decide) _ (by decide) _ rfl, ?_⟩)
      rw [a6]
      refine sp_placeOf a2 (sp_isAtC hg h1.2.1 (Nat.mod_lt _ (by decide)) hs ?_)
      have mk : ∀ v : Int32, (((¬ (if A s = st % 7 ∨ B s = st % 7 then (1 : Int32) else 0) = 0) → (((¬ so (mbeh A B G (fun s => mturn kd (P s)) fr st s) = -1) → (v = 1 ∧ Rp (k + 5) i)) ∧ ((so (mbeh A B G (fun s => mturn kd (P s)) fr st s) = -1) → (v = 0 ∧ Rp (k + 5) i)))) ∧ (((if A s = st % 7 ∨ B s = st % 7 then (1 : Int32) else 0) = 0) → (v = -1 ∧ Rp (k + 5) i))) → J_X12_may len r (fun q2 i2 j2 => v = q2 ∧ Rp (k + 5) i2) i j 37 (nI w) (nI s) := by
        intro v hc'
        rw [J_X12_may]
        refine wkM_yes (by omega) w1 hw ⟨fun h => absurd h (by decide), fun _ => stM_yes (by omega) h1.1.1 hs (bn_t (by decide) ⟨_, hg.1 _ (by decide) _ (by decide) _ rfl, by rw [hg.2 _ (by decide)]; exact hv, ?_⟩)⟩
        rw [ec, a5]
        refine sp_isAtM hg h1.1 a2 hs ⟨fun hh => ⟨_, hg.1 _ (by decide) _ (by decide) _ rfl, by rw [hg.2 _ (by decide)]; exact hv, _, hg.1 _ (by decide) _ (by decide) _ rfl, by rw [hg.2 _ (by decide)]; exact hv, ?_⟩, fun hh => hc'.2 hh⟩
        rw [a3, a5]
        exact sp_behM hg h1.1 a1 a2 hs (hc'.1 hh)
      by_cases hat : A s = st % 7 ∨ B s = st % 7
      · rw [if_pos hat] at mk
        rw [if_pos hat]
        refine bn_t (by decide) (sp_standBehind hg h1.2.1 a1 a2 hs a4 a6 ?_)
        by_cases hno : mbeh A B G (fun s => mturn kd (P s)) fr st s = none
        · exact bn_f (o1.mpr hno) (mk _ (bn_t (by decide) (bn_f (o2.mpr hno) ⟨rfl, hR⟩)))
        · exact bn_t (fun h => hno (o1.mp h)) (mk _ (bn_t (by decide) (bn_t (fun h => hno (o2.mp h)) ⟨rfl, hR⟩)))
      · rw [if_neg hat] at mk
        rw [if_neg hat]
        exact bn_f rfl (mk _ (bn_f rfl ⟨rfl, hR⟩))
end Easy4
