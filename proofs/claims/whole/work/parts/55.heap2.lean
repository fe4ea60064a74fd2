section Fill
variable {len : Nat → Nat} {r : jR} {Q : jI → jL → Prop} {i0 : jI} {j : jL} {a L : Nat} {v : Int32}
theorem lp_fill (hl : len a = L) (hL : L < 2 ^ 31) (hQ : ∀ i', (∀ y, y < L → i' a y = v) → (∀ z f, z ≠ a → i' z f = i0 z f) → Q i' j) : ∀ (m x : Nat) (i : jI), x + m = L → (∀ y, y < x → i a y = v) → (∀ z f, z ≠ a → i z f = i0 z f) → J_J7_fill_53178_L5 len r Q (m + 1) i j a v (nI x) (nI L) := by
  intro m
  induction m with
  | zero =>
    intro x i hx h1 h2
    have hx' : x = L := by omega
    subst hx'
    rw [J_J7_fill_53178_L5]
    exact ⟨fun _ => hQ i h1 h2, fun hh => absurd (nI_le (Nat.le_refl _) hL) hh⟩
  | succ m ih =>
    intro x i hx h1 h2
    rw [J_J7_fill_53178_L5]
    refine ⟨fun hh => absurd hh (nI_ge (by omega) hL), fun _ => ⟨by rw [hl]; exact vp_in_nI (by omega) hL, fun i1 e1 v1 ev => ?_⟩⟩
    rw [nI_clamp (by omega)] at e1
    rw [nI_1] at ev
    subst ev
    refine ih (x + 1) i1 (by omega) (fun y hy => ?_) (fun z f hz => ?_)
    · rw [e1, ju_eq]
      by_cases e : y = x
      · subst e; rw [pk_us]
      · rw [pk_un e]; exact h1 y (by omega)
    · rw [e1, ju_ne hz]; exact h2 z f hz
theorem sp_fill {i : jI} (hl : len a = L) (hL : L < 2 ^ 31) (hQ : ∀ i', (∀ y, y < L → i' a y = v) → (∀ z f, z ≠ a → i' z f = i z f) → Q i' j) : J_J7_fill_53178 len r Q i j a v := by
  rw [J_J7_fill_53178]
  intro v4 e4
  rw [hl] at e4
  have e5 : v4 = nI L := e4
  subst e5
  exact ⟨L + 1, lp_fill hl hL hQ L 0 i (by omega) (fun y hy => by omega) (fun _ _ _ => rfl)⟩
end Fill
section HeapK
variable {len : Nat → Nat} {r : jR} {i : jI} {j : jL} {h a b c L : Nat} {D : Nat → Nat} {M : Nat → Bool}
theorem sp_clear {Q : jI → jL → Prop} (hG : hg3 r len h a b c L) (hQ : ∀ i', hpv i' h a b c L (fun _ => 1073741824) (fun _ => false) → hF h a b c i i' → Q i' j) : J_X3_clear len r Q i j h := by
  obtain ⟨g1, g2, g3, l1, l2, l3, n1, n2, n3, n4, n5, n6, hL⟩ := id hG
  rw [J_X3_clear]
  refine ⟨a, g1, sp_fill l1 (by omega) (fun i1 e1 e2 => ⟨c, g3, sp_fill l3 (by omega) (fun i2 e3 e4 => fun i3 e5 => ?_)⟩)⟩
  have e6 : ∀ z f, z ≠ h → i3 z f = i2 z f := fun z f hz => by rw [e5, ju_ne hz]
  refine hQ i3 ⟨fun _ => 0, fun _ => 0, 0, by rw [e5, ju_eq, pk_us]; rfl, fun y hy => ?_, fun t ht => by omega, fun y hy => ?_, ⟨Nat.zero_le _, fun t ht => by omega, fun y hy hS => absurd rfl hS, fun t h0 ht => by omega⟩, fun y hy => ⟨fun hh => (by cases hh), fun hh => absurd rfl hh⟩⟩ (fun z f z1 z2 z3 z4 => ?_)
  · rw [e6 a y (fun z => n4 z.symm), e4 a y n2, e1 y hy]; rfl
  · rw [e6 c y (fun z => n6 z.symm), e3 y hy]
    show (-1 : Int32) = nI 0 - 1
    decide
  · by_cases e : z = h
    · subst e
      rw [e5, ju_eq, pk_un (z4 rfl), e4 z f z3, e2 z f z1]
    · rw [e6 z f e, e4 z f z3, e2 z f z1]
theorem sp_costOf {Q : Int32 → jI → jL → Prop} {x : Nat} (hG : hg3 r len h a b c L) (hV : hpv i h a b c L D M) (hx : x < L) (hQ : Q (nI (D x)) i j) : J_X3_costOf len r Q i j h (nI x) := by
  obtain ⟨g1, g2, g3, l1, l2, l3, n1, n2, n3, n4, n5, n6, hL⟩ := id hG
  obtain ⟨hp, S, n, v1, v2, v3, v4, v5, v6⟩ := hV
  rw [J_X3_costOf]
  refine ⟨a, g1, by rw [l1]; exact vp_in_nI hx (by omega), ?_⟩
  rw [nI_clamp (by omega), v2 x hx]
  exact hQ
theorem sp_offer {Q : jI → jL → Prop} {x k : Nat} (hG : hg3 r len h a b c L) (hV : hpv i h a b c L D M) (hD : ∀ y, y < L → D y ≤ 1073741824) (hx : x < L) (hk : k < 2 ^ 31) (hQ : ∀ i', hpv i' h a b c L (dD D x k) (dM D M x k) → hF h a b c i i' → Q i' j) : J_X3_offer len r Q i j h (nI x) (nI k) := by
  obtain ⟨g1, g2, g3, l1, l2, l3, n1, n2, n3, n4, n5, n6, hL⟩ := id hG
  obtain ⟨hp, S, n, v1, v2, v3, v4, v5, v6⟩ := id hV
  obtain ⟨q1, q2, q3, q4⟩ := id v5
  have dx := hD x hx
  have ex : (nI x).toNatClampNeg = x := nI_clamp (by omega)
  rw [J_X3_offer, ex]
  refine ⟨a, g1, by rw [l1]; exact vp_in_nI hx (by omega), ?_⟩
  rw [v2 x hx]
  refine pk_lt k (D x) (fun hlt => ?_) (fun hle => ?_)
  · have eD : dD D x k = sU D x k := if_pos hlt
    have eM : dM D M x k = sU M x true := if_pos hlt
    rw [eD, eM] at hQ
    refine ⟨a, g1, by rw [l1]; exact vp_in_nI hx (by omega), fun i1 e1 => ⟨c, g3, by rw [l3]; exact vp_in_nI hx (by omega), fun v ev => ?_⟩⟩
    have i1a : ∀ y, y < L → i1 a y = nI (sU D x k y) := by
      intro y hy
      rw [e1, ju_eq]
      by_cases e : y = x
      · subst e; rw [pk_us, sU_eq]
      · rw [pk_un e, sU_ne e]; exact v2 y hy
    have i1o : ∀ z f, z ≠ a → i1 z f = i z f := fun z f hz => by rw [e1, ju_ne hz]
    have hf1 : hF h a b c i i1 := fun z f z1 z2 z3 z4 => i1o z f z1
    have hD' : ∀ y, y < L → sU D x k y ≤ 1073741824 := by
      intro y hy
      by_cases e : y = x
      · subst e; rw [sU_eq]; omega
      · rw [sU_ne e]; exact hD y hy
    have exk : sU D x k x = k := sU_eq
    rw [i1o c x (fun z => n2 z.symm), v4 x hx] at ev
    have hMx : ∀ y, y < L → y ≠ x → (M y = true ↔ S y ≠ 0) := fun y hy _ => v6 y hy
    by_cases h0 : S x = 0
    · rw [h0, show nI 0 - (1 : Int32) = -1 from by decide] at ev
      subst ev
      refine ⟨fun hh => absurd rfl hh, fun _ v34 e34 i2 e2 => ?_⟩
      rw [i1o h 3 n4, v1] at e34
      subst e34
      have hn := hq_room v5 hx h0
      have hne : ∀ t, t < n → hp t ≠ x := fun t ht z => by have := (q2 t ht).2; rw [z, h0] at this; omega
      have i2o : ∀ z f, z ≠ h → i2 z f = i1 z f := fun z f hz => by rw [e2, ju_ne hz]
      have := lp_up (r := r) (j := j) (Q := Q) (n := n + 1) (x := x) (D := sU D x k) (M := M) (i0 := i) hG hD' hQ (n + 1) n hp S i2 (by omega)
        ⟨by omega, by omega, hx, fun t ht htn => ⟨(q2 t (by omega)).1, hne t (by omega), (q2 t (by omega)).2⟩, fun y hy hyx hS => ⟨by have := (q3 y hy hS).1; omega, by have := (q3 y hy hS).1; omega, (q3 y hy hS).2⟩⟩
        ⟨by rw [e2, ju_eq, pk_us, i1o h 3 n4, v1, nI_1], fun y hy => by rw [i2o a y (fun z => n4 z.symm)]; exact i1a y hy, fun t ht htn => by rw [i2o b t (fun z => n5 z.symm), i1o b t (fun z => n1 z.symm)]; exact v3 t (by omega), fun y hy hyx => by rw [i2o c y (fun z => n6 z.symm), i1o c y (fun z => n2 z.symm)]; exact v4 y hy⟩
        ⟨fun t t0 tn e3 e4 => by rw [sU_ne (hne _ (by omega)), sU_ne (hne t (by omega))]; exact q4 t t0 (by omega), fun _ t t0 tn e3 => by omega⟩
        (fun t t0 tn e3 => by omega) hMx
        (fun z f z1 z2 z3 z4 => by
          by_cases e : z = h
          · subst e; rw [e2, ju_eq, pk_un (z4 rfl)]; exact i1o z f z1
          · rw [i2o z f e]; exact i1o z f z1)
      rw [exk] at this
      exact ⟨n + 1, this⟩
    · obtain ⟨s1, s2⟩ := q3 x hx h0
      have e3 : nI (S x) - (1 : Int32) = nI (S x - 1) := by
        have := nI_pred (S x - 1)
        rw [show S x - 1 + 1 = S x by omega] at this
        exact this
      rw [e3] at ev
      subst ev
      have hne : ∀ t, t < n → t ≠ S x - 1 → hp t ≠ x := fun t ht ht2 z => by have := (q2 t ht).2; rw [z] at this; omega
      refine ⟨fun _ => ⟨S x - 1 + 1, ?_⟩, fun hh => absurd hh (nI_m1 (by omega))⟩
      have kx : ∀ t, 0 < t → t < n → (t - 1) / 2 = S x - 1 → D x ≤ D (hp t) := by
        intro t t0 tn e
        have := q4 t t0 tn
        rw [e, s2] at this
        exact this
      have := lp_up (r := r) (j := j) (Q := Q) (n := n) (x := x) (D := sU D x k) (M := M) (i0 := i) hG hD' hQ (S x - 1 + 1) (S x - 1) hp S i1 (by omega)
        ⟨by omega, q1, hx, fun t ht htn => ⟨(q2 t (by omega)).1, hne t (by omega) htn, (q2 t (by omega)).2⟩, fun y hy hyx hS => ⟨(q3 y hy hS).1, fun z => by have := (q3 y hy hS).2; rw [z, s2] at this; exact hyx this.symm, (q3 y hy hS).2⟩⟩
        ⟨by rw [i1o h 3 n4]; exact v1, i1a, fun t ht htn => by rw [i1o b t (fun z => n1 z.symm)]; exact v3 t (by omega), fun y hy hyx => by rw [i1o c y (fun z => n2 z.symm)]; exact v4 y hy⟩
        ⟨fun t t0 tn e4 e5 => by rw [sU_ne (hne _ (by omega) e5), sU_ne (hne t (by omega) e4)]; exact q4 t t0 (by omega), fun p0 t t0 tn e4 => by
          rw [sU_ne (hne _ (by omega) (by omega)), sU_ne (hne t (by omega) (by omega))]
          have := q4 (S x - 1) p0 (by omega)
          rw [s2] at this
          exact Nat.le_trans this (kx t t0 tn e4)⟩
        (fun t t0 tn e4 => by
          rw [exk, sU_ne (hne t (by omega) (by omega))]
          have := kx t t0 tn e4
          omega) hMx hf1
      rw [exk] at this
      exact this
  · have eD : dD D x k = D := if_neg (by omega)
    have eM : dM D M x k = M := if_neg (by omega)
    rw [eD, eM] at hQ
    exact hQ i hV hF.rf
theorem sp_take {Q : Int32 → jI → jL → Prop} (hG : hg3 r len h a b c L) (hV : hpv i h a b c L D M) (hD : ∀ y, y < L → D y ≤ 1073741824) (hQ0 : (∀ y, y < L → M y = false) → Q (-1) i j) (hQ1 : ∀ u i', u < L → M u = true → (∀ y, y < L → M y = true → D u ≤ D y) → hpv i' h a b c L D (sU M u false) → hF h a b c i i' → Q (nI u) i' j) : J_X3_take len r Q i j h := by
  obtain ⟨g1, g2, g3, l1, l2, l3, n1, n2, n3, n4, n5, n6, hL⟩ := id hG
  obtain ⟨hp, S, n, v1, v2, v3, v4, v5, v6⟩ := id hV
  obtain ⟨q1, q2, q3, q4⟩ := id v5
  rw [J_X3_take, v1]
  by_cases h0 : n = 0
  · subst h0
    refine ⟨fun hh => absurd (by decide) hh, fun _ => hQ0 (fun y hy => ?_)⟩
    cases hm : M y with
    | false => rfl
    | true =>
      have hS := (v6 y hy).mp hm
      have := (q3 y hy hS).1
      omega
  · have hn : 0 < n := by omega
    obtain ⟨u1, u2⟩ := q2 0 hn
    have eu : (nI (hp 0)).toNatClampNeg = hp 0 := nI_clamp (by omega)
    have mu : M (hp 0) = true := (v6 _ u1).mpr (by omega)
    have lu : ∀ y, y < L → M y = true → D (hp 0) ≤ D y := by
      intro y hy hm
      have hS := (v6 y hy).mp hm
      obtain ⟨a1, a2⟩ := q3 y hy hS
      have := hq_top v5 (S y - 1) (by omega)
      rw [a2] at this
      exact this
    have hQ1 := fun i' => hQ1 (hp 0) i' u1 mu lu
    refine ⟨fun _ => ⟨b, g2, by rw [l2]; exact pk_in 0 L (by omega), fun v ev => ?_⟩, fun hh => absurd hh (nI_ne0 hn (by omega))⟩
    rw [show (0 : Int32).toNatClampNeg = 0 from by decide, v3 0 hn] at ev
    subst ev
    rw [eu]
    refine ⟨c, g3, by rw [l3]; exact vp_in_nI u1 (by omega), fun i1 e1 i2 e2 => ?_⟩
    have i1o : ∀ z f, z ≠ c → i1 z f = i z f := fun z f hz => by rw [e1, ju_ne hz]
    have i2o : ∀ z f, z ≠ h → i2 z f = i1 z f := fun z f hz => by rw [e2, ju_ne hz]
    have i2h : i2 h 3 = nI (n - 1) := by
      rw [e2, ju_eq, pk_us, i1o h 3 n6, v1]
      have := nI_pred (n - 1)
      rw [show n - 1 + 1 = n by omega] at this
      exact this
    have i2a : ∀ y, y < L → i2 a y = nI (D y) := fun y hy => by rw [i2o a y (fun z => n4 z.symm), i1o a y n2]; exact v2 y hy
    have i2b : ∀ t, t < n → i2 b t = nI (hp t) := fun t ht => by rw [i2o b t (fun z => n5 z.symm), i1o b t n3]; exact v3 t ht
    have i2c : ∀ y, y < L → i2 c y = nI (sU S (hp 0) 0 y) - 1 := by
      intro y hy
      rw [i2o c y (fun z => n6 z.symm), e1, ju_eq]
      by_cases e : y = hp 0
      · subst e; rw [pk_us, sU_eq]; decide
      · rw [pk_un e, sU_ne e]; exact v4 y hy
    have hf2 : hF h a b c i i2 := by
      intro z f z1 z2 z3 z4
      by_cases e : z = h
      · subst e; rw [e2, ju_eq, pk_un (z4 rfl)]; exact i1o z f z3
      · rw [i2o z f e]; exact i1o z f z3
    have hM2 : ∀ y, y < L → (sU M (hp 0) false y = true ↔ sU S (hp 0) 0 y ≠ 0) := by
      intro y hy
      by_cases e : y = hp 0
      · subst e; rw [sU_eq, sU_eq]; exact ⟨fun hh => (by cases hh), fun hh => absurd rfl hh⟩
      · rw [sU_ne e, sU_ne e]; exact v6 y hy
    rw [i2h]
    refine pk_le (n - 1) 0 (fun hle => ?_) (fun hlt => ?_)
    · have hn1 : n = 1 := by omega
      subst hn1
      rw [J_X3_take_L53]
      refine hQ1 i2 ⟨hp, sU S (hp 0) 0, 0, i2h, i2a, fun t ht => by omega, i2c, ⟨Nat.zero_le _, fun t ht => by omega, fun y hy hS => ?_, fun t h0 ht => by omega⟩, hM2⟩ hf2
      by_cases e : y = hp 0
      · subst e; rw [sU_eq] at hS; exact absurd rfl hS
      · rw [sU_ne e] at hS
        obtain ⟨a1, a2⟩ := q3 y hy hS
        rw [show S y - 1 = 0 by omega] at a2
        exact absurd a2.symm e
    · obtain ⟨w1, w2⟩ := q2 (n - 1) (by omega)
      have ew : (nI (n - 1)).toNatClampNeg = n - 1 := nI_clamp (by omega)
      rw [ew]
      refine ⟨b, g2, by rw [l2]; exact vp_in_nI (by omega) (by omega), ?_⟩
      rw [i2b _ (by omega)]
      have hne : ∀ t t', t < n → t' < n → t ≠ t' → hp t ≠ hp t' := fun t t' ht ht' e z => by
        have := (q2 t ht).2
        rw [z, (q2 t' ht').2] at this
        omega
      rw [J_X3_sink]
      have eM : ∀ y, y < L → sU (sU M (hp 0) false) (hp (n - 1)) true y = sU M (hp 0) false y := by
        intro y hy
        by_cases e : y = hp (n - 1)
        · subst e
          rw [sU_eq, sU_ne (hne _ _ (by omega) hn (by omega))]
          exact ((v6 _ w1).mpr (by omega)).symm
        · rw [sU_ne e]
      refine ⟨n - 1, lp_down (n := n - 1) (x := hp (n - 1)) (D := D) (M := sU M (hp 0) false) (i0 := i) hG hD (fun i' hv' hf' => ?_) (n - 1) 0 hp (sU S (hp 0) 0) i2 (by omega) ⟨by omega, by omega, w1, fun t ht ht0 => ⟨(q2 t (by omega)).1, hne t _ (by omega) (by omega) (by omega), by rw [sU_ne (hne t 0 (by omega) hn ht0)]; exact (q2 t (by omega)).2⟩, fun y hy hyx hS => ?_⟩ ⟨i2h, i2a, fun t ht _ => i2b t (by omega), fun y hy _ => i2c y hy⟩ ⟨fun t t0 tn _ _ => q4 t t0 (by omega), fun hh => absurd hh (by decide)⟩ (fun hh => absurd hh (by decide)) (fun y hy _ => hM2 y hy) hf2⟩
      · rw [J_X3_take_L53]
        refine hQ1 i' ?_ hf'
        obtain ⟨hp', S', n', b1, b2, b3, b4, b5, b6⟩ := hv'
        exact ⟨hp', S', n', b1, b2, b3, b4, b5, fun y hy => by rw [← eM y hy]; exact b6 y hy⟩
      · by_cases e : y = hp 0
        · subst e; rw [sU_eq] at hS; exact absurd rfl hS
        · rw [sU_ne e] at hS ⊢
          obtain ⟨a1, a2⟩ := q3 y hy hS
          refine ⟨?_, ?_, a2⟩
          · rcases Nat.lt_or_ge (S y) n with hl | hl
            · omega
            · exfalso
              rw [show S y - 1 = n - 1 by omega] at a2
              exact hyx a2.symm
          · intro z
            rw [z] at a2
            exact e a2.symm
end HeapK
