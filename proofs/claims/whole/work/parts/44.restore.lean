section Restore
variable {len : Nat → Nat} {r : jR} {Q : Int32 → jI → jL → Prop} {j : jL} {k : Nat}
theorem lp_res102 (hg : Gr r len) : ∀ (m x : Nat) (i : jI), x + m = 6 → (∀ i', cpr i i' 45 64 x 6 → Q (i' 37 8) i' j) → J_X12_restore_L102 len r Q (m + 1) i j 37 (nI x) := by
  intro m
  induction m with
  | zero =>
    intro x i hx h
    have hx6 : x = 6 := by omega
    subst hx6
    rw [J_X12_restore_L102]
    exact ⟨fun _ => h i cpr_end, fun hh => absurd (by decide) hh⟩
  | succ m ih =>
    intro x i hx h
    have ec : (nI x).toNatClampNeg = x := nI_clamp (by omega)
    have hv : vp_in (nI x) 6 := vp_in_nI (by omega) (by decide)
    rw [J_X12_restore_L102]
    refine ⟨fun hh => absurd hh (nI_ge (b := 6) (by omega) (by decide)), fun _ => ⟨_, hg.1 _ (by decide) _ (by decide) _ rfl, _, hg.1 _ (by decide) _ (by decide) _ rfl, by rw [hg.2 _ (by decide)]; exact hv, by rw [hg.2 _ (by decide)]; exact hv, fun i1 e1 v e => ?_⟩⟩
    rw [nI_1] at e
    subst e
    rw [ec] at e1
    subst e1
    exact ih (x + 1) _ (by omega) (fun i' hc => h i' (cpr_step (by decide) (by omega) hc))
theorem lp_res76 (hg : Gr r len) : ∀ (m x : Nat) (i : jI), x + m = 10 → (∀ i' i'', cpr i i' 40 63 x 10 → cpr i' i'' 45 64 0 6 → Q (i'' 37 8) i'' j) → J_X12_restore_L76 len r Q (m + 1) i j 37 (nI x) := by
  intro m
  induction m with
  | zero =>
    intro x i hx h
    have hx6 : x = 10 := by omega
    subst hx6
    rw [J_X12_restore_L76]
    exact ⟨fun _ => ⟨7, lp_res102 hg 6 0 i rfl (fun i' hc => h i i' cpr_end hc)⟩, fun hh => absurd (by decide) hh⟩
  | succ m ih =>
    intro x i hx h
    have ec : (nI x).toNatClampNeg = x := nI_clamp (by omega)
    have hv : vp_in (nI x) 10 := vp_in_nI (by omega) (by decide)
    rw [J_X12_restore_L76]
    refine ⟨fun hh => absurd hh (nI_ge (b := 10) (by omega) (by decide)), fun _ => ⟨_, hg.1 _ (by decide) _ (by decide) _ rfl, _, hg.1 _ (by decide) _ (by decide) _ rfl, by rw [hg.2 _ (by decide)]; exact hv, by rw [hg.2 _ (by decide)]; exact hv, fun i1 e1 v e => ?_⟩⟩
    rw [nI_1] at e
    subst e
    rw [ec] at e1
    subst e1
    exact ih (x + 1) _ (by omega) (fun i' i'' hc hd => h i' i'' (cpr_step (by decide) (by omega) hc) hd)
theorem lp_res39 (hg : Gr r len) : ∀ (m x : Nat) (i : jI), x + m = 5 → (∀ i0 i' i'', cpr2 i i0 43 61 44 62 x 5 → cpr i0 i' 40 63 0 10 → cpr i' i'' 45 64 0 6 → Q (i'' 37 8) i'' j) → J_X12_restore_L39 len r Q (m + 1) i j 37 (nI x) := by
  intro m
  induction m with
  | zero =>
    intro x i hx h
    have hx6 : x = 5 := by omega
    subst hx6
    rw [J_X12_restore_L39]
    exact ⟨fun _ => ⟨11, lp_res76 hg 10 0 i rfl (fun i' i'' hc hd => h i i' i'' cpr2_end hc hd)⟩, fun hh => absurd (by decide) hh⟩
  | succ m ih =>
    intro x i hx h
    have ec : (nI x).toNatClampNeg = x := nI_clamp (by omega)
    have hv : vp_in (nI x) 5 := vp_in_nI (by omega) (by decide)
    rw [J_X12_restore_L39]
    refine ⟨fun hh => absurd hh (nI_ge (b := 5) (by omega) (by decide)), fun _ => ⟨_, hg.1 _ (by decide) _ (by decide) _ rfl, _, hg.1 _ (by decide) _ (by decide) _ rfl, by rw [hg.2 _ (by decide)]; exact hv, by rw [hg.2 _ (by decide)]; exact hv, fun i1 e1 => ⟨_, hg.1 _ (by decide) _ (by decide) _ rfl, _, hg.1 _ (by decide) _ (by decide) _ rfl, by rw [hg.2 _ (by decide)]; exact hv, by rw [hg.2 _ (by decide)]; exact hv, fun i2 e2 v e => ?_⟩⟩⟩
    rw [nI_1] at e
    subst e
    rw [ec] at e1 e2
    subst e1
    subst e2
    exact ih (x + 1) _ (by omega) (fun i0 i' i'' hb hc hd => h i0 i' i'' (cpr2_step (by decide) (by decide) (by decide) (by decide) (by decide) (by omega) hb) hc hd)
/-- the class brings its walkers back -/
def bwr (i i' : jI) (x n : Nat) : Prop := (∀ c, ¬ (32 ≤ c ∧ c ≤ 36) → i' c = i c) ∧ ∀ z, z < 5 → i' (32 + z) = if x ≤ z ∧ z < n then upd (upd (i (32 + z)) 1 (i 12 z)) 2 (i 13 z) else i (32 + z)
theorem lp_bringW (hg : Gr r len) {n : Nat} (hn : n ≤ 5) : ∀ (m x : Nat) (i : jI), x + m = n → i 11 1 = nI n → (∀ i', bwr i i' x n → Q (nI n) i' j) → J_X4_bringWalkers_L2 len r Q (m + 1) i j 11 9 (nI x) := by
  intro m
  induction m with
  | zero =>
    intro x i hx e h
    have hx6 : x = n := by omega
    subst hx6
    rw [J_X4_bringWalkers_L2]
    dsimp only
    rw [e]
    exact ⟨fun _ => h i ⟨fun _ _ => rfl, fun z _ => by rw [if_neg (by omega)]⟩, fun hh => absurd (nI_le (Nat.le_refl _) (by omega)) hh⟩
  | succ m ih =>
    intro x i hx e h
    have ec : (nI x).toNatClampNeg = x := nI_clamp (by omega)
    have hv : vp_in (nI x) 5 := vp_in_nI (by omega) (by decide)
    have hr9 : r 9 (nI x).toNatClampNeg = some (32 + x) := by rw [ec]; exact hg.1 9 (by decide) x (by omega) _ (RR9 x (by omega))
    rw [J_X4_bringWalkers_L2]
    dsimp only
    rw [e]
    refine ⟨fun hh => absurd hh (nI_ge (by omega) (by omega)), fun _ => ⟨by rw [hg.2 _ (by decide)]; exact hv, 32 + x, hr9, _, hg.1 _ (by decide) _ (by decide) _ rfl, by rw [hg.2 _ (by decide)]; exact hv, fun i1 e1 => ⟨by rw [hg.2 _ (by decide)]; exact hv, 32 + x, hr9, _, hg.1 _ (by decide) _ (by decide) _ rfl, by rw [hg.2 _ (by decide)]; exact hv, fun i2 e2 v ev => ?_⟩⟩⟩
    rw [nI_1] at ev
    subst ev
    rw [ec] at e1 e2
    have b : ∀ c, c ≠ 32 + x → i2 c = i c := fun c h1 => by rw [e2, ju_ne h1, e1, ju_ne h1]
    have f13 : i1 13 = i 13 := by rw [e1, ju_ne (by omega)]
    rw [f13] at e2
    have fx : i2 (32 + x) = upd (upd (i (32 + x)) 1 (i 12 x)) 2 (i 13 x) := by rw [e2, ju_eq, e1, ju_eq]
    refine ih (x + 1) i2 (by omega) (by rw [b 11 (by omega)]; exact e) (fun i' hc => h i' ?_)
    obtain ⟨a1, a2⟩ := hc
    refine ⟨fun c h1 => by rw [a1 c h1, b c (by omega)], fun z hz5 => ?_⟩
    rw [a2 z hz5, b 12 (by omega), b 13 (by omega)]
    by_cases hz : z = x
    · subst hz
      rw [if_neg (by omega), if_pos ⟨Nat.le_refl _, by omega⟩]
      exact fx
    · rw [b (32 + z) (by omega)]
      by_cases hz2 : x ≤ z ∧ z < n
      · rw [if_pos (by omega), if_pos hz2]
      · rw [if_neg (by omega), if_neg hz2]
end Restore
section Restore2
variable {len : Nat → Nat} {r : jR} {i : jI} {j : jL} {k : Nat}
set_option maxHeartbeats 2000000 in
theorem ok_26 (hk : k ≤ 2560) (hg : Gr r len) (h : Rp k i) : J_X11_restore len r (fun q i1 j1 => J_X12_restore len r (fun q2 i2 j2 => q = q2 ∧ Rp (k + 5) i2) i1 j1 37) i j 0 := by
  have hR := h.up (k2 := k + 5) (by omega)
  obtain ⟨ns, ng, nt, nw, np, dn, pl, A, B, G, P, fr, h1, h2, h3, h4, h5, h6, h7, h8⟩ := h
  obtain ⟨w1, w2, w3, w4⟩ := id h4
  obtain ⟨n1, n2, n3, n4⟩ := id h2
  have hn : ns ≤ 10 := h1.1.2.1
  rw [J_X11_restore]
  refine ⟨_, hg.1 _ (by decide) _ (by decide) _ rfl, ?_⟩
  rw [J_X4_isOf, n2]
  rcases id h8 with ⟨x1, x2⟩ | ⟨kt, x1, x2, x3, x4, x5, x6⟩
  · refine ⟨fun _ => bn_f rfl ?_, fun hh => absurd x2 hh⟩
    rw [J_X12_restore]
    exact ⟨fun _ => ⟨rfl, hR⟩, fun hh => absurd x1 hh⟩
  have hz : ¬ nI kt = 0 := nI_ne0 x1 (by omega)
  rw [x5]
  refine ⟨fun hh => absurd hh hz, fun _ => ?_⟩
  by_cases hkt : kt = nt
  rotate_left
  · refine ⟨fun _ => bn_f rfl ?_, fun hh => absurd ((nI_eq (by omega) (by omega)).mp hh) hkt⟩
    rw [J_X12_restore, x3, x4, n1]
    exact ⟨fun hh => absurd hh (by decide), fun _ => ⟨fun hh => absurd ((nI_eq (by omega) (by omega)).mp hh) hkt, fun _ => ⟨rfl, hR⟩⟩⟩
  obtain ⟨kw, kp, y1, y2, y3, y4, y5, y6, y7, y8, y9⟩ := x6 hkt
  subst hkt
  refine ⟨fun hh => absurd rfl hh, fun _ => bn_t (by decide) ⟨_, hg.1 _ (by decide) _ (by decide) _ rfl, _, hg.1 _ (by decide) _ (by decide) _ rfl, ?_⟩⟩
  rw [J_X4_bringWalkers]
  refine ⟨kw + 1, lp_bringW hg (by omega) kw 0 i (by omega) y4 (fun i1 c1 i2 e2 => ⟨_, hg.1 _ (by decide) _ (by decide) _ rfl, _, hg.1 _ (by decide) _ (by decide) _ rfl, ?_⟩)⟩
  obtain ⟨c11, c12⟩ := c1
  have ecp : (nI kp).toNatClampNeg = kp := nI_clamp (by omega)
  have g24 : i2 11 4 = nI kp := by rw [e2, ju_ne (by decide), c11 11 (by omega)]; exact y6
  rw [J_X4_bringPrints, g24]
  refine ⟨_, hg.1 _ (by decide) _ (by decide) _ rfl, ⟨⟨by decide, by decide, nI_pos (by omega)⟩, by rw [hg.2 _ (by decide), c0n, ecp]; show 0 + kp ≤ 6; omega, by rw [hg.2 _ (by decide), c0n, ecp]; show 0 + kp ≤ 6; omega⟩, fun i3 e3 i4 e4 => ⟨_, hg.1 _ (by decide) _ (by decide) _ rfl, _, hg.1 _ (by decide) _ (by decide) _ rfl, ?_⟩⟩
  rw [c0n, ecp] at e3
  have c3 : cpr i2 i3 10 14 0 kp := by rw [e3]; exact cpr_jcp
  have g34 : i3 11 4 = nI kp := by rw [c3.1 11 (by decide)]; exact g24
  rw [g34] at e4
  rw [J_X4_bringPaces]
  refine ⟨_, hg.1 _ (by decide) _ (by decide) _ rfl, _, hg.1 _ (by decide) _ (by decide) _ rfl, ⟨⟨by decide, by decide, by decide⟩, by rw [hg.2 _ (by decide), c0n, c10n]; decide, by rw [hg.2 _ (by decide), c0n, c10n]; decide⟩, fun i5 e5 => ?_⟩
  rw [c0n, c10n] at e5
  have c5 : cpr i4 i5 6 15 0 10 := by rw [e5]; exact cpr_jcp
  have b5 : ∀ c, ¬ (32 ≤ c ∧ c ≤ 36) → c ≠ 0 → c ≠ 10 → c ≠ 6 → i5 c = i c := fun c d1 d2 d3 d4 => by rw [c5.1 c d4, e4, ju_ne d2, c3.1 c d3, e2, ju_ne d2, c11 c d1]
  have f0 : i5 0 = upd (upd (i 0) 3 (nI kw)) 5 (nI kp) := by rw [c5.1 0 (by decide), e4, ju_eq, c3.1 0 (by decide), e2, ju_eq, c11 0 (by omega)]
  have f10 : ∀ z, z < kp → i5 10 z = i 14 z := fun z hz => by rw [c5.1 10 (by decide), e4, ju_ne (by decide), c3.2 z, if_pos ⟨Nat.zero_le _, hz⟩, e2, ju_ne (by decide), c11 14 (by omega)]
  have f6 : ∀ z, z < 10 → i5 6 z = i 15 z := fun z hz => by rw [c5.2 z, if_pos ⟨Nat.zero_le _, hz⟩, e4, ju_ne (by decide), c3.1 15 (by decide), e2, ju_ne (by decide), c11 15 (by omega)]
  have f32 : ∀ z, z < 5 → i5 (32 + z) = i1 (32 + z) := fun z hz => by rw [c5.1 (32 + z) (by omega), e4, ju_ne (by omega), c3.1 (32 + z) (by omega), e2, ju_ne (by omega)]
  have g03 : i5 0 3 = nI kw := by rw [f0]; simp [upd]
  have g37 : i5 37 = i 37 := b5 37 (by omega) (by decide) (by decide) (by decide)
  rw [g03, J_X12_restore, g37, x3, x4, n1, y3]
  refine ⟨fun hh => absurd hh (by decide), fun _ => ⟨fun _ m1 u1 m2 u2 => ⟨6, lp_res39 hg 5 0 m2 rfl (fun i0 i' i'' q1 q2 q3 => ?_)⟩, fun hh => absurd rfl hh⟩⟩
  obtain ⟨q11, q12, q13⟩ := q1
  obtain ⟨q21, q22⟩ := q2
  obtain ⟨q31, q32⟩ := q3
  have v1 : m1 37 45 = nI kp := by rw [u1, ju_eq, g37]; simp [upd]; exact y5
  rw [v1] at u2
  have bm : ∀ c, c ≠ 37 → m2 c = i5 c := fun c hc => by rw [u2, ju_ne hc, u1, ju_ne hc]
  have b0 : ∀ c, c ≠ 43 → c ≠ 44 → c ≠ 40 → c ≠ 45 → i'' c = m2 c := fun c d1 d2 d3 d4 => by rw [q31 c d4, q21 c d3, q11 c d1 d2]
  have f37 : i'' 37 = upd (upd (i 37) 8 (nI kw)) 12 (nI kp) := by rw [b0 37 (by decide) (by decide) (by decide) (by decide), u2, ju_eq, u1, ju_eq, g37]
  have bb : ∀ c, ¬ (32 ≤ c ∧ c ≤ 36) → c ≠ 0 → c ≠ 10 → c ≠ 6 → c ≠ 37 → c ≠ 43 → c ≠ 44 → c ≠ 40 → c ≠ 45 → i'' c = i c := fun c d1 d2 d3 d4 d5 d6 d7 d8 d9 => by rw [b0 c d6 d7 d8 d9, bm c d5, b5 c d1 d2 d3 d4]
  have f43 : ∀ z, z < 5 → i'' 43 z = i 61 z := fun z hz => by rw [q31 43 (by decide), q21 43 (by decide), q12 z, if_pos ⟨Nat.zero_le _, hz⟩, bm 61 (by decide), b5 61 (by omega) (by decide) (by decide) (by decide)]
  have f44 : ∀ z, z < 5 → i'' 44 z = i 62 z := fun z hz => by rw [q31 44 (by decide), q21 44 (by decide), q13 z, if_pos ⟨Nat.zero_le _, hz⟩, bm 62 (by decide), b5 62 (by omega) (by decide) (by decide) (by decide)]
  have f40 : ∀ z, z < 10 → i'' 40 z = i 63 z := fun z hz => by rw [q31 40 (by decide), q22 z, if_pos ⟨Nat.zero_le _, hz⟩, q11 63 (by decide) (by decide), bm 63 (by decide), b5 63 (by omega) (by decide) (by decide) (by decide)]
  have f45 : ∀ z, z < 6 → i'' 45 z = i 64 z := fun z hz => by rw [q32 z, if_pos ⟨Nat.zero_le _, hz⟩, q21 64 (by decide), q11 64 (by decide) (by decide), bm 64 (by decide), b5 64 (by omega) (by decide) (by decide) (by decide)]
  have k0 : i'' 0 = i5 0 := by rw [b0 0 (by decide) (by decide) (by decide) (by decide), bm 0 (by decide)]
  have k6 : i'' 6 = i5 6 := by rw [b0 6 (by decide) (by decide) (by decide) (by decide), bm 6 (by decide)]
  have k10 : i'' 10 = i5 10 := by rw [b0 10 (by decide) (by decide) (by decide) (by decide), bm 10 (by decide)]
  have k32 : ∀ z, z < kw → i'' (32 + z) = upd (upd (i (32 + z)) 1 (i 12 z)) 2 (i 13 z) := fun z hz => by rw [b0 (32 + z) (by omega) (by omega) (by omega) (by omega), bm (32 + z) (by omega), f32 z (by omega), c12 z (by omega), if_pos ⟨Nat.zero_le _, hz⟩]
  have s37 : ∀ f, f ≠ 8 → f ≠ 12 → i'' 37 f = i 37 f := fun f d1 d2 => by rw [f37]; simp only [upd]; rw [if_neg d2, if_neg d1]
  have s0 : ∀ f, f ≠ 3 → f ≠ 5 → i'' 0 f = i 0 f := fun f d1 d2 => by rw [k0, f0]; simp only [upd]; rw [if_neg d2, if_neg d1]
  obtain ⟨t1, t2, t3, t4, t5, t6, t7⟩ := h1
  obtain ⟨tm1, tm2, tm3, tm4⟩ := t1
  obtain ⟨tc1, tc2, tc3, tc4⟩ := t2
  have hp : ∀ s, s < ns → (i 63 s).toNatClampNeg ≤ 9 ∧ i 63 s = nI (i 63 s).toNatClampNeg ∧ i 15 s = nI (i 63 s).toNatClampNeg := by
    intro s hs
    obtain ⟨p, hp1, hp2, hp3⟩ := y9 s hs
    have : (i 63 s).toNatClampNeg = p := by rw [hp2]; exact nI_clamp (by omega)
    rw [this]
    exact ⟨hp1, hp2, hp3⟩
  refine ⟨by rw [f37]; simp [upd], ns, ng, kt, kw, kp, dn, pl, A, B, G, fun s => (i 63 s).toNatClampNeg, fr, ⟨⟨(s37 0 (by decide) (by decide)).trans tm1, tm2, (s37 6 (by decide) (by decide)).trans tm3, fun s hs => ?_⟩, ⟨by rw [bb 3 (by omega) (by decide) (by decide) (by decide) (by decide) (by decide) (by decide) (by decide) (by decide)]; exact tc1, tc2, by rw [bb 3 (by omega) (by decide) (by decide) (by decide) (by decide) (by decide) (by decide) (by decide) (by decide)]; exact tc3, fun s hs => ?_⟩, fun s hs => (hp s hs).1, ⟨(s37 5 (by decide) (by decide)).trans t4.1, by rw [bb 3 (by omega) (by decide) (by decide) (by decide) (by decide) (by decide) (by decide) (by decide) (by decide)]; exact t4.2.1, t4.2.2⟩, t5, fun g hg' => ?_, t7⟩, (h2.cong ⟨s37 7 (by decide) (by decide), s0 7 (by decide) (by decide)⟩).up (by omega), fun hh => h3 (by omega), ⟨by rw [f37]; simp [upd], by rw [k0]; exact g03, by omega, fun w hw => ?_⟩, ⟨by rw [f37]; simp [upd], by rw [k0, f0]; simp [upd], y2, fun q hq => ?_⟩, h6.cong ⟨s37 14 (by decide) (by decide), s0 8 (by decide) (by decide)⟩, h7.cong ⟨bb 46 (by omega) (by decide) (by decide) (by decide) (by decide) (by decide) (by decide) (by decide) (by decide), bb 2 (by omega) (by decide) (by decide) (by decide) (by decide) (by decide) (by decide) (by decide) (by decide), s37 15 (by decide) (by decide), by rw [bb 1 (by omega) (by decide) (by decide) (by decide) (by decide) (by decide) (by decide) (by decide) (by decide)]⟩, ?_⟩
  · obtain ⟨⟨r1, r2, r3, r4⟩, r5, r6, r7, r8, r9⟩ := tm4 s hs
    have := hp s hs
    rw [bb 38 (by omega) (by decide) (by decide) (by decide) (by decide) (by decide) (by decide) (by decide) (by decide), bb 39 (by omega) (by decide) (by decide) (by decide) (by decide) (by decide) (by decide) (by decide) (by decide), f40 s (by omega), bb 41 (by omega) (by decide) (by decide) (by decide) (by decide) (by decide) (by decide) (by decide) (by decide)]
    exact ⟨⟨r1, r2, this.2.1, r4⟩, r5, r6, r7, by show (i 63 s).toNatClampNeg < 11; have := this.1; omega, r9⟩
  · obtain ⟨⟨r1, r2, r3, r4⟩, r5, r6, r7, r8, r9⟩ := tc4 s hs
    have := hp s hs
    rw [bb 4 (by omega) (by decide) (by decide) (by decide) (by decide) (by decide) (by decide) (by decide) (by decide), bb 5 (by omega) (by decide) (by decide) (by decide) (by decide) (by decide) (by decide) (by decide) (by decide), k6, f6 s (by omega), bb 7 (by omega) (by decide) (by decide) (by decide) (by decide) (by decide) (by decide) (by decide) (by decide)]
    exact ⟨⟨r1, r2, this.2.2, r4⟩, r5, r6, r7, by show (i 63 s).toNatClampNeg < 11; have := this.1; omega, r9⟩
  · rw [bb 8 (by omega) (by decide) (by decide) (by decide) (by decide) (by decide) (by decide) (by decide) (by decide)]
    exact t6 g hg'
  · obtain ⟨kd, st0, a1, a2, a3, a4, a5, a6, a7⟩ := w4 w (by omega)
    obtain ⟨st, s1, s2, s3, s4⟩ := y7 w hw
    refine ⟨kd, st, a1, s1, by rw [bb 42 (by omega) (by decide) (by decide) (by decide) (by decide) (by decide) (by decide) (by decide) (by decide)]; exact a3, by rw [k32 w hw]; simp [upd]; exact a4, by rw [f43 w (by omega)]; exact s2, by rw [k32 w hw]; simp [upd]; exact s3, by rw [k32 w hw, f44 w (by omega)]; simp [upd]; exact s4⟩
  · obtain ⟨v, v1', v2', v3'⟩ := y8 q hq
    exact ⟨v, v1', by rw [f45 q (by omega)]; exact v2', by rw [k10, f10 q hq]; exact v3'⟩
  · have h8' : RI i'' ns ng kt nw := h8.cong ⟨fun a ha => bb a (by omega) (by omega) (by omega) (by omega) (by omega) (by omega) (by omega) (by omega) (by omega), s37 42 (by decide) (by decide), s37 43 (by decide) (by decide), s37 44 (by decide) (by decide), s37 45 (by decide) (by decide)⟩
    refine Or.inr ⟨kt, x1, Nat.le_refl _, by rw [s37 42 (by decide) (by decide)]; exact x3, by rw [s37 43 (by decide) (by decide)]; exact x4, by rw [bb 11 (by omega) (by decide) (by decide) (by decide) (by decide) (by decide) (by decide) (by decide) (by decide)]; exact x5, fun _ => ?_⟩
    have hB : ∀ c, (11 ≤ c ∧ c ≤ 15) ∨ (61 ≤ c ∧ c ≤ 64) → i'' c = i c := fun c hc => bb c (by omega) (by omega) (by omega) (by omega) (by omega) (by omega) (by omega) (by omega) (by omega)
    rw [s37 44 (by decide) (by decide), s37 45 (by decide) (by decide), hB 11 (by omega), hB 12 (by omega), hB 13 (by omega), hB 14 (by omega), hB 15 (by omega), hB 61 (by omega), hB 62 (by omega), hB 63 (by omega), hB 64 (by omega)]
    exact ⟨kw, kp, Nat.le_refl _, y2, y3, y4, y5, y6, y7, y8, y9⟩
end Restore2
