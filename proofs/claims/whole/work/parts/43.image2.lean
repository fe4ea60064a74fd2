section Image2
variable {len : Nat → Nat} {r : jR} {i : jI} {j : jL} {k : Nat}
theorem c0n : (0 : Int32).toNatClampNeg = 0 := by decide
theorem c10n : (10 : Int32).toNatClampNeg = 10 := by decide
set_option maxHeartbeats 2000000 in
theorem ok_25 (hk : k ≤ 2560) (hg : Gr r len) (h : Rp k i) : J_X11_image len r (fun q i1 j1 => J_X12_image len r (fun q2 i2 j2 => q = q2 ∧ Rp (k + 5) i2) i1 j1 37) i j 0 := by
  have hR := h.up (k2 := k + 5) (by omega)
  obtain ⟨ns, ng, nt, nw, np, dn, pl, A, B, G, P, fr, h1, h2, h3, h4, h5, h6, h7, h8⟩ := h
  obtain ⟨w1, w2, w3, w4⟩ := id h4
  obtain ⟨p1, p2, p3, p4⟩ := id h5
  obtain ⟨n1, n2, n3, n4⟩ := id h2
  have hn : ns ≤ 10 := h1.1.2.1
  rw [J_X11_image]
  rcases Nat.eq_zero_or_pos nt with hnt | hnt
  · have hns : ns = 0 := n4.mp hnt
    subst hns
    refine townC_no hg h1.2.1.1 (bn_f rfl ?_)
    rw [J_X12_image, n1, hnt]
    exact bn_f (by decide) ⟨rfl, hR⟩
  have hns : 0 < ns := by
    rcases Nat.eq_zero_or_pos ns with h | h
    · exact absurd (n4.mpr h) (by omega)
    · exact h
  have hz : ¬ nI nt = 0 := nI_ne0 hnt (by omega)
  refine townC_yes hg h1.2.1.1 hns (by omega) (bn_t (by decide) ⟨_, hg.1 _ (by decide) _ (by decide) _ rfl, _, hg.1 _ (by decide) _ (by decide) _ rfl, ?_⟩)
  rw [w2, J_X4_keepWalkers]
  intro i2 e2
  refine ⟨nw + 1, lp_keepW hg w3 nw 0 i2 (by omega) (fun i3 k3 => ⟨_, hg.1 _ (by decide) _ (by decide) _ rfl, _, hg.1 _ (by decide) _ (by decide) _ rfl, ?_⟩)⟩
  obtain ⟨k31, k32, k33⟩ := k3
  have b3 : ∀ c, c ≠ 11 → c ≠ 12 → c ≠ 13 → i3 c = i c := fun c c1 c2 c3 => by rw [k31 c c2 c3, e2, ju_ne c1]
  rw [b3 0 (by decide) (by decide) (by decide), p2, J_X4_keepPrints]
  intro i4 e4
  have ecp : (nI np).toNatClampNeg = np := nI_clamp (by omega)
  refine ⟨_, hg.1 _ (by decide) _ (by decide) _ rfl, ⟨⟨by decide, by decide, nI_pos (by omega)⟩, by rw [hg.2 _ (by decide), c0n, ecp]; show 0 + np ≤ 6; omega, by rw [hg.2 _ (by decide), c0n, ecp]; show 0 + np ≤ 6; omega⟩, fun i5 e5 => ⟨_, hg.1 _ (by decide) _ (by decide) _ rfl, _, hg.1 _ (by decide) _ (by decide) _ rfl, ?_⟩⟩
  rw [c0n, ecp] at e5
  have c5 : cpr i4 i5 14 10 0 np := by rw [e5]; exact cpr_jcp
  have b5 : ∀ c, c ≠ 11 → c ≠ 12 → c ≠ 13 → c ≠ 14 → i5 c = i c := fun c c1 c2 c3 c4 => by rw [c5.1 c c4, e4, ju_ne c1, b3 c c1 c2 c3]
  rw [b5 0 (by decide) (by decide) (by decide) (by decide), n2, J_X4_keepPaces]
  intro i6 e6
  refine ⟨_, hg.1 _ (by decide) _ (by decide) _ rfl, _, hg.1 _ (by decide) _ (by decide) _ rfl, ⟨⟨by decide, by decide, by decide⟩, by rw [hg.2 _ (by decide), c0n, c10n]; decide, by rw [hg.2 _ (by decide), c0n, c10n]; decide⟩, fun i7 e7 => ?_⟩
  rw [c0n, c10n] at e7
  have c7 : cpr i6 i7 15 6 0 10 := by rw [e7]; exact cpr_jcp
  have b7 : ∀ c, c ≠ 11 → c ≠ 12 → c ≠ 13 → c ≠ 14 → c ≠ 15 → i7 c = i c := fun c c1 c2 c3 c4 c5' => by rw [c7.1 c c5', e6, ju_ne c1, b5 c c1 c2 c3 c4]
  have f11 : i7 11 = upd (upd (upd (i 11) 1 (nI nw)) 4 (nI np)) 0 (nI nt) := by
    rw [c7.1 11 (by decide), e6, ju_eq, c5.1 11 (by decide), e4, ju_eq, k31 11 (by decide) (by decide), e2, ju_eq]
  have f12 : ∀ z, z < nw → i7 12 z = i (32 + z) 1 := fun z hz => by
    rw [c7.1 12 (by decide), e6, ju_ne (by decide), c5.1 12 (by decide), e4, ju_ne (by decide), k32 z, if_pos ⟨Nat.zero_le _, hz⟩, e2, ju_ne (by omega)]
  have f13 : ∀ z, z < nw → i7 13 z = i (32 + z) 2 := fun z hz => by
    rw [c7.1 13 (by decide), e6, ju_ne (by decide), c5.1 13 (by decide), e4, ju_ne (by decide), k33 z, if_pos ⟨Nat.zero_le _, hz⟩, e2, ju_ne (by omega)]
  have f14 : ∀ z, z < np → i7 14 z = i 10 z := fun z hz => by
    rw [c7.1 14 (by decide), e6, ju_ne (by decide), c5.2 z, if_pos ⟨Nat.zero_le _, hz⟩, e4, ju_ne (by decide), b3 10 (by decide) (by decide) (by decide)]
  have f15 : ∀ z, z < 10 → i7 15 z = i 6 z := fun z hz => by
    rw [c7.2 z, if_pos ⟨Nat.zero_le _, hz⟩, e6, ju_ne (by decide), b5 6 (by decide) (by decide) (by decide) (by decide)]
  rw [b7 0 (by decide) (by decide) (by decide) (by decide) (by decide), w2, J_X12_image]
  have g37 : i7 37 = i 37 := b7 37 (by decide) (by decide) (by decide) (by decide) (by decide)
  rw [g37, n1]
  refine bn_t hz (fun m1 x1 m2 x2 m3 x3 m4 x4 => ⟨6, lp_img41 hg 5 0 m4 rfl (fun i0 i' i'' q1 q2 q3 => ?_)⟩)
  obtain ⟨q11, q12, q13⟩ := q1
  obtain ⟨q21, q22⟩ := q2
  obtain ⟨q31, q32⟩ := q3
  have y2 : m1 37 7 = nI nt := by rw [x1, ju_eq, g37]; simp [upd]; exact n1
  rw [y2] at x2
  have y3 : m2 37 8 = nI nw := by rw [x2, ju_eq, x1, ju_eq, g37]; simp [upd]; exact w1
  rw [y3] at x3
  have y4 : m3 37 12 = nI np := by rw [x3, ju_eq, x2, ju_eq, x1, ju_eq, g37]; simp [upd]; exact p1
  rw [y4] at x4
  have bm : ∀ c, c ≠ 37 → m4 c = i7 c := fun c hc => by rw [x4, ju_ne hc, x3, ju_ne hc, x2, ju_ne hc, x1, ju_ne hc]
  have f37m : m4 37 = upd (upd (upd (upd (i 37) 42 1) 43 (nI nt)) 44 (nI nw)) 45 (nI np) := by rw [x4, ju_eq, x3, ju_eq, x2, ju_eq, x1, ju_eq, g37]
  have b0 : ∀ c, c ≠ 61 → c ≠ 62 → c ≠ 63 → c ≠ 64 → i'' c = m4 c := fun c c1 c2 c3 c4 => by rw [q31 c c4, q21 c c3, q11 c c1 c2]
  have bb : ∀ c, ¬ (11 ≤ c ∧ c ≤ 15) → ¬ (61 ≤ c ∧ c ≤ 64) → c ≠ 37 → i'' c = i c := fun c c1 c2 c3 => by rw [b0 c (by omega) (by omega) (by omega) (by omega), bm c c3, b7 c (by omega) (by omega) (by omega) (by omega) (by omega)]
  have f37 : i'' 37 = upd (upd (upd (upd (i 37) 42 1) 43 (nI nt)) 44 (nI nw)) 45 (nI np) := by rw [b0 37 (by decide) (by decide) (by decide) (by decide)]; exact f37m
  have f61 : ∀ z, z < 5 → i'' 61 z = i 43 z := fun z hz => by rw [q31 61 (by decide), q21 61 (by decide), q12 z, if_pos ⟨Nat.zero_le _, hz⟩, bm 43 (by decide), b7 43 (by decide) (by decide) (by decide) (by decide) (by decide)]
  have f62 : ∀ z, z < 5 → i'' 62 z = i 44 z := fun z hz => by rw [q31 62 (by decide), q21 62 (by decide), q13 z, if_pos ⟨Nat.zero_le _, hz⟩, bm 44 (by decide), b7 44 (by decide) (by decide) (by decide) (by decide) (by decide)]
  have f63 : ∀ z, z < 10 → i'' 63 z = i 40 z := fun z hz => by rw [q31 63 (by decide), q22 z, if_pos ⟨Nat.zero_le _, hz⟩, q11 40 (by decide) (by decide), bm 40 (by decide), b7 40 (by decide) (by decide) (by decide) (by decide) (by decide)]
  have f64 : ∀ z, z < 6 → i'' 64 z = i 45 z := fun z hz => by rw [q32 z, if_pos ⟨Nat.zero_le _, hz⟩, q21 45 (by decide), q11 45 (by decide) (by decide), bm 45 (by decide), b7 45 (by decide) (by decide) (by decide) (by decide) (by decide)]
  have k11 : i'' 11 = i7 11 := by rw [b0 11 (by decide) (by decide) (by decide) (by decide), bm 11 (by decide)]
  have k12 : i'' 12 = i7 12 := by rw [b0 12 (by decide) (by decide) (by decide) (by decide), bm 12 (by decide)]
  have k13 : i'' 13 = i7 13 := by rw [b0 13 (by decide) (by decide) (by decide) (by decide), bm 13 (by decide)]
  have k14 : i'' 14 = i7 14 := by rw [b0 14 (by decide) (by decide) (by decide) (by decide), bm 14 (by decide)]
  have k15 : i'' 15 = i7 15 := by rw [b0 15 (by decide) (by decide) (by decide) (by decide), bm 15 (by decide)]
  have s37 : ∀ f, f < 42 → i'' 37 f = i 37 f := fun f hf => by rw [f37]; simp only [upd]; rw [if_neg (by omega), if_neg (by omega), if_neg (by omega), if_neg (by omega)]
  have z0 := bb 0 (by omega) (by omega) (by decide)
  have z1 := bb 1 (by omega) (by omega) (by decide)
  refine ⟨by rw [s37 8 (by decide)]; exact w1.symm, ns, ng, nt, nw, np, dn, pl, A, B, G, P, fr, h1.cong ⟨fun a ha => bb a (by omega) (by omega) (by omega), s37 0 (by decide), s37 5 (by decide), s37 6 (by decide)⟩, (h2.cong ⟨s37 7 (by decide), by rw [z0]⟩).up (by omega), h3, h4.cong ⟨fun a ha => bb a (by omega) (by omega) (by omega), s37 8 (by decide), by rw [z0]⟩, h5.cong ⟨bb 45 (by omega) (by omega) (by decide), bb 10 (by omega) (by omega) (by decide), s37 12 (by decide), by rw [z0]⟩, h6.cong ⟨s37 14 (by decide), by rw [z0]⟩, h7.cong ⟨bb 46 (by omega) (by omega) (by decide), bb 2 (by omega) (by omega) (by decide), s37 15 (by decide), by rw [z1]⟩, ?_⟩
  refine Or.inr ⟨nt, hnt, Nat.le_refl _, by rw [f37]; simp [upd], by rw [f37]; simp [upd], by rw [k11, f11]; simp [upd], fun _ => ⟨nw, np, Nat.le_refl _, p3, by rw [f37]; simp [upd], by rw [k11, f11]; simp [upd], by rw [f37]; simp [upd], by rw [k11, f11]; simp [upd], fun w hw => ?_, fun q hq => ?_, fun s hs => ?_⟩⟩
  · obtain ⟨kd, st, a1, a2, a3, a4, a5, a6, a7⟩ := w4 w hw
    exact ⟨st, a2, by rw [f61 w (by omega)]; exact a5, by rw [k12, f12 w hw]; exact a6, by rw [k13, f13 w hw, f62 w (by omega)]; exact a7⟩
  · obtain ⟨v, v1, v2, v3⟩ := p4 q hq
    exact ⟨v, v1, by rw [f64 q (by omega)]; exact v2, by rw [k14, f14 q hq]; exact v3⟩
  · have hm := (h1.1.2.2.2 s hs).1.2.2.1
    have hc := (h1.2.1.2.2.2 s hs).1.2.2.1
    exact ⟨P s, h1.2.2.1 s hs, by rw [f63 s (by omega)]; exact hm, by rw [k15, f15 s (by omega)]; exact hc⟩
end Image2
