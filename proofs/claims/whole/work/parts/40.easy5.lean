section Easy5
variable {len : Nat → Nat} {r : jR} {i i' : jI} {j : jL} {k : Nat} {y1 y2 y3 y4 : Int32}
/-- only walkers' cells have changed: the rest of the relation stands -/
theorem eqs_W (h : ∀ c, ¬ (32 ≤ c ∧ c ≤ 36) → ¬ (42 ≤ c ∧ c ≤ 44) → i' c = i c) : EqT i i' ∧ EqN i i' ∧ EqQ i i' ∧ EqD i i' ∧ EqP i i' ∧ EqI i i' := by
  have h37 := h 37 (by omega) (by omega)
  have h0 := h 0 (by omega) (by omega)
  have h1 := h 1 (by omega) (by omega)
  refine ⟨⟨fun a ha => h a (by omega) (by omega), by rw [h37], by rw [h37], by rw [h37]⟩, ⟨by rw [h37], by rw [h0]⟩, ⟨h 45 (by omega) (by omega), h 10 (by omega) (by omega), by rw [h37], by rw [h0]⟩, ⟨by rw [h37], by rw [h0]⟩, ⟨h 46 (by omega) (by omega), h 2 (by omega) (by omega), by rw [h37], by rw [h1]⟩, ⟨fun a ha => h a (by omega) (by omega), by rw [h37], by rw [h37], by rw [h37], by rw [h37]⟩⟩
theorem RW.set {nw w st : Nat} (h : RW i nw) (hw : w < nw) (hc : ∀ c, ¬ c = 32 + w → ¬ c = 43 → ¬ c = 44 → i' c = i c) (h43 : ∀ z, z ≠ w → i' 43 z = i 43 z) (h44 : ∀ z, z ≠ w → i' 44 z = i 44 z) (hst : st < 378) (e43 : i' 43 w = nI st) (e0 : i' (32 + w) 0 = i (32 + w) 0) (e1 : i' (32 + w) 1 = nI (enc st)) (e2 : i' (32 + w) 2 = i' 44 w) : RW i' nw := by
  obtain ⟨w1, w2, w3, w4⟩ := h
  refine ⟨by rw [hc 37 (by omega) (by decide) (by decide)]; exact w1, by rw [hc 0 (by omega) (by decide) (by decide)]; exact w2, w3, fun z hz => ?_⟩
  obtain ⟨kd, s0, a1, a2, a3, a4, a5, a6, a7⟩ := w4 z hz
  by_cases hzw : z = w
  · subst hzw
    exact ⟨kd, st, a1, hst, by rw [hc 42 (by omega) (by decide) (by decide)]; exact a3, e0.trans a4, e43, e1, e2⟩
  · refine ⟨kd, s0, a1, a2, by rw [hc 42 (by omega) (by decide) (by decide)]; exact a3, ?_, by rw [h43 z hzw]; exact a5, ?_, ?_⟩
    · rw [hc (32 + z) (by omega) (by omega) (by omega)]; exact a4
    · rw [hc (32 + z) (by omega) (by omega) (by omega)]; exact a6
    · rw [hc (32 + z) (by omega) (by omega) (by omega), h44 z hzw]; exact a7
set_option maxHeartbeats 1000000 in
theorem ok_11 (hg : Gr r len) (h : Rp k i) : J_X11_go len r (fun q i1 j1 => J_X12_go len r (fun q2 i2 j2 => q = q2 ∧ Rp (k + 5) i2) i1 j1 37 y1 y2) i j 0 y1 y2 := by
  have hR := h.up (k2 := k + 5) (by omega)
  obtain ⟨ns, ng, nt, nw, np, dn, pl, A, B, G, P, fr, h1, h2, h3, h4, h5, h6, h7, h8⟩ := h
  obtain ⟨w1, w2, w3, w4⟩ := id h4
  have hn : ns ≤ 10 := h1.1.2.1
  rw [J_X11_go]
  rcases out_or y1 (n := nw) (by omega) with ho | ⟨w, hw, rfl⟩
  · refine wkC_no (by omega) w2 ho ⟨fun _ => ?_, fun h => absurd rfl h⟩
    rw [J_X11_go_L16, J_X12_go]
    exact wkM_no (by omega) w1 ho ⟨fun _ => ⟨rfl, hR⟩, fun h => absurd rfl h⟩
  · obtain ⟨kd, st, a1, a2, a3, a4, a5, a6, a7⟩ := w4 w hw
    have ec : (nI w).toNatClampNeg = w := nI_clamp (by omega)
    have hv : vp_in (nI w) 5 := vp_in_nI (by omega) (by decide)
    refine wkC_yes (by omega) w2 hw ⟨fun h => absurd h (by decide), fun _ => ?_⟩
    rcases out_or y2 (n := ns) (by omega) with ho | ⟨s, hs, rfl⟩
    · refine stC_no hg (by omega) h1.2.1.1 ho (bn_f rfl ?_)
      rw [J_X11_go_L16, J_X12_go]
      exact wkM_yes (by omega) w1 hw ⟨fun h => absurd h (by decide), fun _ => stM_no (by omega) h1.1.1 ho (bn_f rfl ⟨rfl, hR⟩)⟩
    · obtain ⟨-, mA, mB, -, -, mG⟩ := h1.1.2.2.2 s hs
      have hb := fun st2 hh => mbeh_lt (T := fun s => mturn kd (P s)) (fr := fr) (st2 := st2) a2 mA mB mG hh
      obtain ⟨o1, o2⟩ := eo_none hb
      refine stC_yes hg (by omega) h1.2.1.1 hs (bn_t (by decide) ⟨_, hg.1 _ (by decide) _ (by decide) _ rfl, by rw [hg.2 _ (by decide)]; exact hv, 32 + w, by rw [ec]; exact hg.1 9 (by decide) w (by omega) _ (RR9 w (by omega)), ?_⟩)
      refine sp_standBehind hg h1.2.1 a1 a2 hs a4 a6 ?_
      -- the reference's side, from any world in which its own cells are as they were
      cases hm : mbeh A B G (fun s => mturn kd (P s)) fr st s with
      | none =>
        refine bn_f rfl ?_
        rw [J_X12_go]
        refine wkM_yes (by omega) w1 hw ⟨fun h => absurd h (by decide), fun _ => stM_yes (by omega) h1.1.1 hs (bn_t (by decide) ⟨_, hg.1 _ (by decide) _ (by decide) _ rfl, by rw [hg.2 _ (by decide)]; exact hv, _, hg.1 _ (by decide) _ (by decide) _ rfl, by rw [hg.2 _ (by decide)]; exact hv, ?_⟩)⟩
        rw [ec, a3, a5]
        refine sp_behM hg h1.1 a1 a2 hs ?_
        rw [hm]
        exact bn_f rfl ⟨rfl, hR⟩
      | some st2 =>
        have hst2 := hb st2 hm
        rw [hm] at o1 o2
        refine bn_t (fun h => by cases o1.mp h) (fun i1 e1 => ?_)
        refine sp_placeOf hst2 ?_
        have q1 : ∀ c, c ≠ 32 + w → i1 c = i c := fun c hc => by rw [e1, ju_ne hc]
        have t1 : TM i1 ns A B G P fr := h1.1.cong ⟨fun a ha => q1 a (by omega), by rw [q1 37 (by omega)], by rw [q1 37 (by omega)], by rw [q1 37 (by omega)]⟩
        have z1 : i1 37 8 = nI nw := by rw [q1 37 (by omega)]; exact w1
        rw [J_X12_go]
        refine wkM_yes (by omega) z1 hw ⟨fun h => absurd h (by decide), fun _ => stM_yes (by omega) t1.1 hs (bn_t (by decide) ⟨_, hg.1 _ (by decide) _ (by decide) _ rfl, by rw [hg.2 _ (by decide)]; exact hv, _, hg.1 _ (by decide) _ (by decide) _ rfl, by rw [hg.2 _ (by decide)]; exact hv, ?_⟩)⟩
        rw [ec, q1 42 (by omega), q1 43 (by omega), a3, a5]
        refine sp_behM hg t1 a1 a2 hs ?_
        rw [hm]
        refine bn_t (fun h => by cases o2.mp h) ⟨_, hg.1 _ (by decide) _ (by decide) _ rfl, by rw [hg.2 _ (by decide)]; exact hv, fun i2 e2 => ?_⟩
        refine sp_placeIn hst2 ⟨rfl, ?_⟩
        have q2 : ∀ c, c ≠ 32 + w → c ≠ 43 → i2 c = i c := fun c hc hd => by rw [e2, ju_ne hd, q1 c hc]
        obtain ⟨k1, k2, k3, k4, k5, k6⟩ := eqs_W (i := i) (i' := i2) (fun c hc hd => q2 c (by omega) (by omega))
        have f43 : i2 43 = upd (i 43) w (nI st2) := by rw [e2, ju_eq, q1 43 (by omega)]; rfl
        have f32 : i2 (32 + w) = upd (i (32 + w)) 1 (nI (enc st2)) := by rw [e2, ju_ne (by omega), e1, ju_eq]; rfl
        refine ⟨ns, ng, nt, nw, np, dn, pl, A, B, G, P, fr, h1.cong k1, (h2.cong k2).up (by omega), h3, h4.set (w := w) (st := st2) hw (fun c hc hd _ => q2 c hc hd) (fun z hz => by rw [f43]; simp [upd, hz]) (fun z _ => by rw [q2 44 (by omega) (by decide)]) hst2 (by rw [f43]; simp [upd]) (by rw [f32]; simp [upd]) (by rw [f32]; simp [upd]) (by rw [f32, q2 44 (by omega) (by decide)]; simp [upd]; exact a7), h5.cong k3, h6.cong k4, h7.cong k5, h8.cong k6⟩
set_option maxHeartbeats 1000000 in
theorem ok_12 (hg : Gr r len) (h : Rp k i) : J_X11_skip len r (fun q i1 j1 => J_X12_skip len r (fun q2 i2 j2 => q = q2 ∧ Rp (k + 5) i2) i1 j1 37 y1) i j 0 y1 := by
  have hR := h.up (k2 := k + 5) (by omega)
  obtain ⟨ns, ng, nt, nw, np, dn, pl, A, B, G, P, fr, h1, h2, h3, h4, h5, h6, h7, h8⟩ := h
  obtain ⟨w1, w2, w3, w4⟩ := id h4
  rw [J_X11_skip]
  rcases out_or y1 (n := nw) (by omega) with ho | ⟨w, hw, rfl⟩
  · refine wkC_no (by omega) w2 ho (bn_f rfl ?_)
    rw [J_X12_skip]
    exact wkM_no (by omega) w1 ho (bn_f rfl ⟨rfl, hR⟩)
  · obtain ⟨kd, st, a1, a2, a3, a4, a5, a6, a7⟩ := w4 w hw
    have ec : (nI w).toNatClampNeg = w := nI_clamp (by omega)
    have hv : vp_in (nI w) 5 := vp_in_nI (by omega) (by decide)
    refine wkC_yes (by omega) w2 hw (bn_t (by decide) ⟨_, hg.1 _ (by decide) _ (by decide) _ rfl, by rw [hg.2 _ (by decide)]; exact hv, 32 + w, by rw [ec]; exact hg.1 9 (by decide) w (by omega) _ (RR9 w (by omega)), ?_⟩)
    rw [a4, a6]
    by_cases hl : nI kd = 3
    · refine bn_f hl ?_
      rw [J_X12_skip]
      refine wkM_yes (by omega) w1 hw (bn_t (by decide) ⟨_, hg.1 _ (by decide) _ (by decide) _ rfl, by rw [hg.2 _ (by decide)]; exact hv, ?_⟩)
      rw [ec, a3]
      exact bn_f hl ⟨rfl, hR⟩
    · have hst2 : mmv st (st % 7) (1 - st / 7 % 2) < 378 := mmv_lt st a2 _ (Nat.mod_lt _ (by decide)) _ (by omega)
      obtain ⟨st2, est2⟩ : ∃ z, z = mmv st (st % 7) (1 - st / 7 % 2) := ⟨_, rfl⟩
      refine bn_t hl (sp_skipped a2 (fun i1 e1 i2 e2 => ?_))
      rw [← est2] at e1 hst2
      have f1 : i1 (32 + w) 2 = i 44 w := by rw [e1, ju_eq]; simp [upd]; exact a7
      rw [f1] at e2
      have g2 : i2 (32 + w) 1 = nI (enc st2) := by rw [e2, ju_eq, e1, ju_eq]; simp [upd]
      rw [g2]
      refine sp_footOf hst2 ?_
      have q2 : ∀ c, c ≠ 32 + w → i2 c = i c := fun c hc => by rw [e2, ju_ne hc, e1, ju_ne hc]
      have f32 : i2 (32 + w) = upd (upd (i (32 + w)) 1 (nI (enc st2))) 2 (i 44 w + 1) := by rw [e2, ju_eq, e1, ju_eq]
      have z1 : i2 37 8 = nI nw := by rw [q2 37 (by omega)]; exact w1
      rw [J_X12_skip]
      refine wkM_yes (by omega) z1 hw (bn_t (by decide) ⟨_, hg.1 _ (by decide) _ (by decide) _ rfl, by rw [hg.2 _ (by decide)]; exact hv, ?_⟩)
      rw [ec, q2 42 (by omega), a3]
      refine bn_t hl ⟨_, hg.1 _ (by decide) _ (by decide) _ rfl, _, hg.1 _ (by decide) _ (by decide) _ rfl, by rw [hg.2 _ (by decide)]; exact hv, ?_⟩
      rw [q2 43 (by omega), a5]
      refine sp_turned a2 ⟨by rw [hg.2 _ (by decide)]; exact hv, fun i3 e3 => ⟨_, hg.1 _ (by decide) _ (by decide) _ rfl, by rw [hg.2 _ (by decide)]; exact hv, by rw [hg.2 _ (by decide)]; exact hv, fun i4 e4 => ⟨_, hg.1 _ (by decide) _ (by decide) _ rfl, by rw [hg.2 _ (by decide)]; exact hv, ?_⟩⟩⟩
      rw [← est2] at e3
      have q4 : ∀ c, c ≠ 32 + w → c ≠ 43 → c ≠ 44 → i4 c = i c := fun c hc hd hf => by rw [e4, ju_ne hf, e3, ju_ne hd, q2 c hc]
      have f43 : i4 43 = upd (i 43) w (nI st2) := by rw [e4, ju_ne (by decide), e3, ju_eq, q2 43 (by omega)]
      have f44 : i4 44 = upd (i 44) w (i 44 w + 1) := by rw [e4, ju_eq, e3, ju_ne (by decide), q2 44 (by omega)]
      have g43 : i4 43 w = nI st2 := by rw [f43]; simp [upd]
      have f32' : i4 (32 + w) = upd (upd (i (32 + w)) 1 (nI (enc st2))) 2 (i 44 w + 1) := by rw [e4, ju_ne (by omega), e3, ju_ne (by omega)]; exact f32
      rw [g43]
      refine sp_footIn hst2 ⟨rfl, ?_⟩
      obtain ⟨k1, k2, k3, k4, k5, k6⟩ := eqs_W (i := i) (i' := i4) (fun c hc hd => q4 c (by omega) (by omega) (by omega))
      exact ⟨ns, ng, nt, nw, np, dn, pl, A, B, G, P, fr, h1.cong k1, (h2.cong k2).up (by omega), h3, h4.set (w := w) (st := st2) hw q4 (fun z hz => by rw [f43]; simp [upd, hz]) (fun z hz => by rw [f44]; simp [upd, hz]) hst2 g43 (by rw [f32']; simp [upd]) (by rw [f32']; simp [upd]) (by rw [f32', f44]; simp [upd]), h5.cong k3, h6.cong k4, h7.cong k5, h8.cong k6⟩
end Easy5
