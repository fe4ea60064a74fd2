section Easy2
variable {len : Nat → Nat} {r : jR} {i : jI} {j : jL} {k : Nat} {y1 y2 y3 y4 : Int32}
theorem out_ne {x : Int32} {n a : Nat} (h : Out x n) (ha : a < n) (hn : n < 2 ^ 31) : ¬ x = nI a := by
  intro e
  subst e
  rcases h with h | h
  · exact nI_pos (by omega) h
  · exact nI_ge ha hn h
theorem ok_4 (hg : Gr r len) (h : Rp k i) : J_X11_street len r (fun q i1 j1 => J_X12_street len r (fun q2 i2 j2 => q = q2 ∧ Rp (k + 5) i2) i1 j1 37 y1 y2) i j 0 y1 y2 := by
  have hR := h.up (k2 := k + 5) (by omega)
  obtain ⟨ns, ng, nt, nw, np, dn, pl, A, B, G, P, fr, h1, h2, h3, h4, h5, h6, h7, h8⟩ := h
  have hn : ns ≤ 10 := h1.1.2.1
  rw [J_X11_street]
  rcases out_or y1 (n := ns) (by omega) with ho | ⟨s, hs, rfl⟩
  · refine stC_no hg (by omega) h1.2.1.1 ho (bn_f rfl ?_)
    rw [J_X12_street]
    exact stM_no (by omega) h1.1.1 ho (bn_f rfl ⟨rfl, hR⟩)
  · obtain ⟨⟨m0, m1, m2, m3⟩, -⟩ := h1.1.2.2.2 s hs
    obtain ⟨⟨c0, c1, c2, c3⟩, -⟩ := h1.2.1.2.2.2 s hs
    have ec : (nI s).toNatClampNeg = s := nI_clamp (by omega)
    have hv : vp_in (nI s) 10 := vp_in_nI (by omega) (by decide)
    refine stC_yes hg (by omega) h1.2.1.1 hs (bn_t (by decide) ?_)
    have mk : ∀ v : Int32, J_X12_within len r (fun q16 i16 j16 => ((q16 = 0) → (v = -102 ∧ Rp (k + 5) i16)) ∧ ((¬ q16 = 0) → (J_X12_streetNow len r (fun q25 i25 j25 => v = q25 ∧ Rp (k + 5) i25) i16 j16 37 (nI s) y2))) i j y2 0 3 → J_X12_street len r (fun q2 i2 j2 => v = q2 ∧ Rp (k + 5) i2) i j 37 (nI s) y2 := by
      intro v hv'
      rw [J_X12_street]
      exact stM_yes (by omega) h1.1.1 hs (bn_t (by decide) hv')
    rcases out_or y2 (n := 4) (by decide) with ho | ⟨a, ha, rfl⟩
    · refine ⟨fun e => absurd e (out_ne ho (a := 0) (by decide) (by decide)), fun e => absurd e (out_ne ho (a := 1) (by decide) (by decide)), fun e => absurd e (out_ne ho (a := 2) (by decide) (by decide)), fun e => absurd e (out_ne ho (a := 3) (by decide) (by decide)), fun _ _ _ _ => mk _ ?_⟩
      exact gM_noK (m := 3) ho (by decide) ⟨fun _ => ⟨rfl, hR⟩, fun h => absurd rfl h⟩
    · rcases (show a = 0 ∨ a = 1 ∨ a = 2 ∨ a = 3 by omega) with rfl | rfl | rfl | rfl
      · refine ⟨fun _ => ⟨_, hg.1 _ (by decide) _ (by decide) _ rfl, _, hg.1 _ (by decide) _ (by decide) _ rfl, by rw [hg.2 _ (by decide)]; exact hv, mk _ ?_⟩, fun h => absurd h (by decide), fun h => absurd h (by decide), fun h => absurd h (by decide), fun h0 _ _ _ => absurd (by decide) h0⟩
        refine gM_yesK (a := 0) (m := 3) (by decide) (by decide) ⟨fun h => absurd h (by decide), fun _ => ?_⟩
        rw [J_X12_streetNow]
        refine bn_f (by decide) ⟨_, hg.1 _ (by decide) _ (by decide) _ rfl, by rw [hg.2 _ (by decide)]; exact hv, ?_, hR⟩
        rw [ec, c0, m0]
      · refine ⟨fun h => absurd h (by decide), fun _ => ⟨_, hg.1 _ (by decide) _ (by decide) _ rfl, _, hg.1 _ (by decide) _ (by decide) _ rfl, by rw [hg.2 _ (by decide)]; exact hv, mk _ ?_⟩, fun h => absurd h (by decide), fun h => absurd h (by decide), fun _ h1 _ _ => absurd (by decide) h1⟩
        refine gM_yesK (a := 1) (m := 3) (by decide) (by decide) ⟨fun h => absurd h (by decide), fun _ => ?_⟩
        rw [J_X12_streetNow]
        refine bn_t (by decide) (bn_f (by decide) ⟨_, hg.1 _ (by decide) _ (by decide) _ rfl, by rw [hg.2 _ (by decide)]; exact hv, ?_, hR⟩)
        rw [ec, c1, m1]
      · refine ⟨fun h => absurd h (by decide), fun h => absurd h (by decide), fun _ => ⟨_, hg.1 _ (by decide) _ (by decide) _ rfl, _, hg.1 _ (by decide) _ (by decide) _ rfl, by rw [hg.2 _ (by decide)]; exact hv, mk _ ?_⟩, fun h => absurd h (by decide), fun _ _ h2 _ => absurd (by decide) h2⟩
        refine gM_yesK (a := 2) (m := 3) (by decide) (by decide) ⟨fun h => absurd h (by decide), fun _ => ?_⟩
        rw [J_X12_streetNow]
        refine bn_t (by decide) (bn_t (by decide) (bn_f (by decide) ⟨_, hg.1 _ (by decide) _ (by decide) _ rfl, by rw [hg.2 _ (by decide)]; exact hv, ?_, hR⟩))
        rw [ec, c2, m2]
      · refine ⟨fun h => absurd h (by decide), fun h => absurd h (by decide), fun h => absurd h (by decide), fun _ => ⟨_, hg.1 _ (by decide) _ (by decide) _ rfl, _, hg.1 _ (by decide) _ (by decide) _ rfl, by rw [hg.2 _ (by decide)]; exact hv, mk _ ?_⟩, fun _ _ _ h3 => absurd (by decide) h3⟩
        refine gM_yesK (a := 3) (m := 3) (by decide) (by decide) ⟨fun h => absurd h (by decide), fun _ => ?_⟩
        rw [J_X12_streetNow]
        refine bn_t (by decide) (bn_t (by decide) (bn_t (by decide) ⟨_, hg.1 _ (by decide) _ (by decide) _ rfl, by rw [hg.2 _ (by decide)]; exact hv, ?_, hR⟩))
        rw [ec, c3, m3]
theorem ok_5 (hg : Gr r len) (h : Rp k i) : J_X11_repave len r (fun q i1 j1 => J_X12_repave len r (fun q2 i2 j2 => q = q2 ∧ Rp (k + 5) i2) i1 j1 37 y1 y2) i j 0 y1 y2 := by
  have hR := h.up (k2 := k + 5) (by omega)
  obtain ⟨ns, ng, nt, nw, np, dn, pl, A, B, G, P, fr, h1, h2, h3, h4, h5, h6, h7, h8⟩ := h
  have hn : ns ≤ 10 := h1.1.2.1
  rw [J_X11_repave]
  rcases out_or y1 (n := ns) (by omega) with ho | ⟨s, hs, rfl⟩
  · refine stC_no hg (by omega) h1.2.1.1 ho (bn_f rfl ?_)
    rw [J_X12_repave]
    exact stM_no (by omega) h1.1.1 ho (bn_f rfl ⟨rfl, hR⟩)
  · have ec : (nI s).toNatClampNeg = s := nI_clamp (by omega)
    have hv : vp_in (nI s) 10 := vp_in_nI (by omega) (by decide)
    refine stC_yes hg (by omega) h1.2.1.1 hs (bn_t (by decide) ?_)
    rcases out_or y2 (n := 10) (by decide) with ho | ⟨a, ha, rfl⟩
    · refine gC_no (m := 9) (by decide) ho (bn_f rfl ?_)
      rw [J_X12_repave]
      exact stM_yes (by omega) h1.1.1 hs (bn_t (by decide) (gM_noK (m := 9) ho (by decide) (bn_f rfl ⟨rfl, hR⟩)))
    · refine gC_yes (m := 9) (by decide) (by omega) (bn_t (by decide) ⟨_, hg.1 _ (by decide) _ (by decide) _ rfl, _, hg.1 _ (by decide) _ (by decide) _ rfl, by rw [hg.2 _ (by decide)]; exact hv, fun v e => ⟨_, hg.1 _ (by decide) _ (by decide) _ rfl, _, hg.1 _ (by decide) _ (by decide) _ rfl, by rw [hg.2 _ (by decide)]; exact hv, fun i1 e1 => ?_⟩⟩)
      rw [J_X12_repave]
      have hz1 : i1 37 0 = nI ns := by rw [e1, ju_ne (by decide)]; exact h1.1.1
      refine stM_yes (by omega) hz1 hs (bn_t (by decide) (gM_yesK (m := 9) (by omega) (by decide) (bn_t (by decide) ⟨_, hg.1 _ (by decide) _ (by decide) _ rfl, by rw [hg.2 _ (by decide)]; exact hv, fun v2 e2 => ⟨_, hg.1 _ (by decide) _ (by decide) _ rfl, by rw [hg.2 _ (by decide)]; exact hv, fun i2 e3 => ?_⟩⟩)))
      rw [ec] at e e1 e2 e3
      obtain ⟨t1, t2, t3, t4, t5, t6, t7⟩ := h1
      obtain ⟨tm1, tm2, tm3, tm4⟩ := t1
      obtain ⟨tc1, tc2, tc3, tc4⟩ := t2
      have hs6 := tc4 s hs
      have hs40 := tm4 s hs
      have hvv : v = v2 := by
        rw [e, e2, e1, ju_ne (by decide), hs6.1.2.2.1, hs40.1.2.2.1]
      have q6 : i2 6 = upd (i 6) s (nI a) := by rw [e3, e1, ju_ne (by decide), ju_eq]
      have q40 : i2 40 = upd (i 40) s (nI a) := by rw [e3, e1, ju_eq, ju_ne (by decide)]
      have qo : ∀ c, c ≠ 6 → c ≠ 40 → i2 c = i c := fun c h6 h40 => by rw [e3, e1, ju_ne h40, ju_ne h6]
      have sm : ∀ c, (c ≠ 6 ∧ c ≠ 40) → i2 c = i c := fun c h => qo c h.1 h.2
      refine ⟨hvv, ns, ng, nt, nw, np, dn, pl, A, B, G, fun z => if z = s then a else P z, fr, ⟨⟨?_, tm2, ?_, fun z hz => ?_⟩, ⟨?_, tc2, ?_, fun z hz => ?_⟩, fun z hz => ?_, ⟨?_, ?_, t4.2.2⟩, t5, fun g hg => ?_, t7⟩, (h2.cong ⟨by rw [qo 37 (by decide) (by decide)], by rw [qo 0 (by decide) (by decide)]⟩).up (by omega), h3, h4.cong ⟨fun c hc => qo c (by omega) (by omega), by rw [qo 37 (by decide) (by decide)], by rw [qo 0 (by decide) (by decide)]⟩, h5.cong ⟨qo 45 (by decide) (by decide), qo 10 (by decide) (by decide), by rw [qo 37 (by decide) (by decide)], by rw [qo 0 (by decide) (by decide)]⟩, h6.cong ⟨by rw [qo 37 (by decide) (by decide)], by rw [qo 0 (by decide) (by decide)]⟩, h7.cong ⟨qo 46 (by decide) (by decide), qo 2 (by decide) (by decide), by rw [qo 37 (by decide) (by decide)], by rw [qo 1 (by decide) (by decide)]⟩, h8.cong ⟨fun c hc => qo c (by omega) (by omega), by rw [qo 37 (by decide) (by decide)], by rw [qo 37 (by decide) (by decide)], by rw [qo 37 (by decide) (by decide)], by rw [qo 37 (by decide) (by decide)]⟩⟩
      · rw [qo 37 (by decide) (by decide)]; exact tm1
      · rw [qo 37 (by decide) (by decide)]; exact tm3
      · obtain ⟨⟨b1, b2, b3, b4⟩, b5, b6, b7, b8, b9⟩ := tm4 z hz
        rw [qo 38 (by decide) (by decide), qo 39 (by decide) (by decide), q40, qo 41 (by decide) (by decide)]
        refine ⟨⟨b1, b2, ?_, b4⟩, b5, b6, b7, ?_, b9⟩
        · by_cases hzs : z = s
          · simp [upd, hzs]
          · simp [upd, hzs, b3]
        · by_cases hzs : z = s
          · simp [hzs]; omega
          · simp [hzs]; omega
      · rw [qo 3 (by decide) (by decide)]; exact tc1
      · rw [qo 3 (by decide) (by decide)]; exact tc3
      · obtain ⟨⟨b1, b2, b3, b4⟩, b5, b6, b7, b8, b9⟩ := tc4 z hz
        rw [qo 4 (by decide) (by decide), qo 5 (by decide) (by decide), q6, qo 7 (by decide) (by decide)]
        refine ⟨⟨b1, b2, ?_, b4⟩, b5, b6, b7, ?_, b9⟩
        · by_cases hzs : z = s
          · simp [upd, hzs]
          · simp [upd, hzs, b3]
        · by_cases hzs : z = s
          · simp [hzs]; omega
          · simp [hzs]; omega
      · have := t3 z hz
        by_cases hzs : z = s
        · simp [hzs]; omega
        · simp [hzs]; omega
      · rw [qo 37 (by decide) (by decide)]; exact t4.1
      · rw [qo 3 (by decide) (by decide)]; exact t4.2.1
      · rw [qo 8 (by decide) (by decide)]; exact t6 g hg
end Easy2
