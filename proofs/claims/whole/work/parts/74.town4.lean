section OkTown
variable {len : Nat → Nat} {r : jR} {j : jL} {k : Nat}
theorem sp_isTown {Q : Int32 → jI → jL → Prop} {i : jI} {C : Nat → Nat} {pl : Nat} (hg : Gr r len) (hpl : pl ≤ 50) (epl : i 1 1 = nI pl) (hC : ∀ q, q < pl → i 2 q = nI (C q) ∧ C q < 127) (hQ : ∀ i' f, fau C pl f → pF i i' → Q (bI (whl C pl f)) i' j) : J_X5_isTown len r Q i j 1 := by
  rw [J_X5_isTown]
  refine sp_readable (C := C) hg hpl epl hC (fun i1 f hf h2 hp => ?_)
  have hQ' := hQ i1 f hf hp
  rw [(hp 1 1 (by omega)).trans epl]
  have hfl := hf.1
  have no : whl C pl f = false → J_X5_isTown_L40 len r Q i1 j := by
    intro z
    rw [J_X5_isTown_L40]
    rw [z] at hQ'
    exact hQ'
  have yes : whl C pl f = true → J_X5_isTown_L36 len r Q i1 j := by
    intro z
    rw [J_X5_isTown_L36]
    rw [z] at hQ'
    exact hQ'
  refine ⟨fun hne => no ?_, fun heq => ?_⟩
  · unfold whl
    rw [decide_eq_false_iff_not]
    intro z
    exact hne (by rw [z.1])
  · have hfp : f = pl := (nI_eq (by omega) (by omega)).mp heq
    obtain ⟨e12, ht⟩ := h2 hfp
    have hs := ht.1
    rw [e12]
    have y : (ss C pl = 3 ∨ ss C pl = 4 ∨ ss C pl = 6) → whl C pl f = true := fun z => by
      unfold whl
      rw [decide_eq_true_iff]
      exact ⟨hfp, z⟩
    refine ⟨fun h3 => yes (y (Or.inl ((nI_eq (b := 3) (by omega) (by decide)).mp h3))), fun n3 => ⟨fun h4 => yes (y (Or.inr (Or.inl ((nI_eq (b := 4) (by omega) (by decide)).mp h4)))), fun n4 => ⟨fun n6 => no ?_, fun h6 => yes (y (Or.inr (Or.inr ((nI_eq (b := 6) (by omega) (by decide)).mp h6))))⟩⟩⟩
    unfold whl
    rw [decide_eq_false_iff_not]
    rintro ⟨-, z | z | z⟩
    · exact n3 (by rw [z]; decide)
    · exact n4 (by rw [z]; decide)
    · exact n6 (by rw [z]; decide)
/-- the reference copies its rows -/
theorem lp_t40 {Q : Int32 → jI → jL → Prop} {i0 : jI} {ns : Nat} (hg : Gr r len) (hns : ns ≤ 10) (e0 : i0 37 0 = nI ns) (hQ : ∀ i', (∀ x f, ¬ (38 ≤ x ∧ x ≤ 41) → ¬ (x = 37 ∧ (f = 7 ∨ f = 8 ∨ f = 12 ∨ f = 15)) → i' x f = i0 x f) → (∀ t, t < ns → i' 38 t = i0 47 t ∧ i' 39 t = i0 48 t ∧ i' 40 t = i0 49 t ∧ i' 41 t = i0 50 t) → i' 37 7 = i0 37 7 + 1 → i' 37 8 = 0 → i' 37 12 = 0 → i' 37 15 = 0 → Q (nI ns) i' j) : ∀ (m x : Nat) (i : jI), x + m = ns → (∀ y f, ¬ (38 ≤ y ∧ y ≤ 41) → i y f = i0 y f) → (∀ t, t < x → i 38 t = i0 47 t ∧ i 39 t = i0 48 t ∧ i 40 t = i0 49 t ∧ i 41 t = i0 50 t) → J_X12_town_L40 len r Q (m + 1) i j 37 (nI x) := by
  intro m
  induction m with
  | zero =>
    intro x i hx h1 h2
    have hx' : x = ns := by omega
    subst hx'
    rw [J_X12_town_L40]
    dsimp only
    rw [h1 37 0 (by omega), e0]
    refine ⟨fun _ ia ea ib eb ic ec id' ed => ?_, fun hh => absurd (nI_le (Nat.le_refl _) (by omega)) hh⟩
    have o : ∀ y f, ¬ (y = 37 ∧ (f = 7 ∨ f = 8 ∨ f = 12 ∨ f = 15)) → id' y f = i y f := by
      intro y f hy
      by_cases e : y = 37
      · subst e
        rw [ed, ju_eq, pk_un (by omega), ec, ju_eq, pk_un (by omega), eb, ju_eq, pk_un (by omega), ea, ju_eq, pk_un (by omega)]
      · rw [ed, ju_ne e, ec, ju_ne e, eb, ju_ne e, ea, ju_ne e]
    have en : id' 37 0 = nI x := by rw [o 37 0 (by omega), h1 37 0 (by omega), e0]
    rw [en]
    refine hQ id' (fun y f a b => (o y f b).trans (h1 y f a)) (fun t ht => ?_) ?_ ?_ ?_ ?_
    · rw [o 38 t (by omega), o 39 t (by omega), o 40 t (by omega), o 41 t (by omega)]; exact h2 t ht
    · rw [ed, ju_eq, pk_un (by decide), ec, ju_eq, pk_un (by decide), eb, ju_eq, pk_un (by decide), ea, ju_eq, pk_us, h1 37 7 (by omega)]
    · rw [ed, ju_eq, pk_un (by decide), ec, ju_eq, pk_un (by decide), eb, ju_eq, pk_us]
    · rw [ed, ju_eq, pk_un (by decide), ec, ju_eq, pk_us]
    · rw [ed, ju_eq, pk_us]
  | succ m ih =>
    intro x i hx h1 h2
    have ex : (nI x).toNatClampNeg = x := nI_clamp (by omega)
    have hv : vp_in (nI x) 10 := vp_in_nI (by omega) (by decide)
    rw [J_X12_town_L40]
    dsimp only
    rw [h1 37 0 (by omega), e0, ex]
    refine ⟨fun hh => absurd hh (nI_ge (by omega) (by omega)), fun _ => ⟨38, hg.1 _ (by decide) _ (by decide) _ rfl, 47, hg.1 _ (by decide) _ (by decide) _ rfl, by rw [hg.2 _ (by decide)]; exact hv, by rw [hg.2 _ (by decide)]; exact hv, fun ia ea => ⟨39, hg.1 _ (by decide) _ (by decide) _ rfl, 48, hg.1 _ (by decide) _ (by decide) _ rfl, by rw [hg.2 _ (by decide)]; exact hv, by rw [hg.2 _ (by decide)]; exact hv, fun ib eb => ⟨40, hg.1 _ (by decide) _ (by decide) _ rfl, 49, hg.1 _ (by decide) _ (by decide) _ rfl, by rw [hg.2 _ (by decide)]; exact hv, by rw [hg.2 _ (by decide)]; exact hv, fun ic ec => ⟨41, hg.1 _ (by decide) _ (by decide) _ rfl, 50, hg.1 _ (by decide) _ (by decide) _ rfl, by rw [hg.2 _ (by decide)]; exact hv, by rw [hg.2 _ (by decide)]; exact hv, fun id' ed v ev => ?_⟩⟩⟩⟩⟩
    rw [nI_1] at ev
    subst ev
    have oa : ∀ y f, y ≠ 38 → ia y f = i y f := fun y f hy => by rw [ea, ju_ne hy]
    have ob : ∀ y f, y ≠ 39 → ib y f = ia y f := fun y f hy => by rw [eb, ju_ne hy]
    have oc : ∀ y f, y ≠ 40 → ic y f = ib y f := fun y f hy => by rw [ec, ju_ne hy]
    have od : ∀ y f, y ≠ 41 → id' y f = ic y f := fun y f hy => by rw [ed, ju_ne hy]
    refine ih (x + 1) id' (by omega) (fun y f hy => ?_) (fun t ht => ?_)
    · rw [od y f (by omega), oc y f (by omega), ob y f (by omega), oa y f (by omega)]; exact h1 y f hy
    · rw [od 38 t (by decide), od 39 t (by decide), od 40 t (by decide), oc 38 t (by decide), oc 39 t (by decide), ob 38 t (by decide), ea, ju_eq, eb, ju_eq, ec, ju_eq, ed, ju_eq]
      by_cases e : t = x
      · subst e
        rw [pk_us, pk_us, pk_us, pk_us]
        refine ⟨h1 47 t (by omega), ?_, ?_, ?_⟩
        · rw [oa 48 t (by decide)]; exact h1 48 t (by omega)
        · rw [ob 49 t (by decide), oa 49 t (by decide)]; exact h1 49 t (by omega)
        · rw [oc 50 t (by decide), ob 50 t (by decide), oa 50 t (by decide)]; exact h1 50 t (by omega)
      · rw [pk_un e, pk_un e, pk_un e, pk_un e]
        obtain ⟨b1, b2, b3, b4⟩ := h2 t (by omega)
        refine ⟨b1, ?_, ?_, ?_⟩
        · rw [oa 39 t (by decide)]; exact b2
        · rw [ob 40 t (by decide), oa 40 t (by decide)]; exact b3
        · rw [oc 41 t (by decide), ob 41 t (by decide), oa 41 t (by decide)]; exact b4
variable {i : jI}
theorem ok_3 (hg : Gr r len) (h : Rp k i) : J_X11_town len r (fun q i1 j1 => J_X12_town len r (fun q2 i2 j2 => q = q2 ∧ Rp (k + 5) i2) i1 j1 37) i j 0 := by
  have hR := h.up (k2 := k + 5) (by omega)
  obtain ⟨ns, ng, nt, nw, np, dn, pl, A, B, G, P, fr, h1, h2, h3, h4, h5, h6, h7, h8⟩ := h
  have hfn := h7.fn
  have hpl := h7.2.2.1
  rw [J_X11_town]
  refine ⟨1, hg.1 _ (by decide) _ (by decide) _ rfl, sp_isTown (C := lto i) hg hpl h7.2.1 (fun q hq => ⟨(hfn q hq).2.1, (hfn q hq).2.2⟩) (fun i1 f hf1 hp1 => ?_)⟩
  cases hw : whl (lto i) pl f with
  | false =>
    refine ⟨fun hh => absurd (by decide) hh, fun _ => ?_⟩
    rw [J_X12_town]
    refine sp_readTown (C := lto i) hg hpl ((hp1 _ _ (by omega)).trans h7.1) (fun q hq => ⟨(hp1 _ _ (by omega)).trans (hfn q hq).1, (hfn q hq).2.2⟩) (fun i2 f2 hf2 e17 e18 _ hr2 => ?_)
    have e := fau_eq hf1 hf2
    subst e
    rw [e18, hw]
    exact ⟨fun hh => absurd (by decide) hh, fun _ => ⟨rfl, (hR.sm hp1.sm).sm hr2.wf.sm⟩⟩
  | true =>
    have hwt : f = pl ∧ (ss (lto i) pl = 3 ∨ ss (lto i) pl = 4 ∨ ss (lto i) pl = 6) := by
      unfold whl at hw
      exact of_decide_eq_true hw
    obtain ⟨hfp, hend⟩ := hwt
    subst hfp
    have hok : okp (lto i) f := ⟨hf1.2.1, hend⟩
    have h0 : 0 < f := by
      rcases Nat.eq_zero_or_pos f with z | z
      · subst z
        have : (0 : Nat) = 3 ∨ (0 : Nat) = 4 ∨ (0 : Nat) = 6 := hend
        omega
      · exact z
    refine ⟨fun _ => ⟨3, hg.1 _ (by decide) _ (by decide) _ rfl, 1, hg.1 _ (by decide) _ (by decide) _ rfl, ?_⟩, fun hh => absurd hh (by decide)⟩
    refine sp_read (C := lto i) hg hpl hok h0 ((hp1 _ _ (by omega)).trans h7.2.1) (fun q hq => ⟨(hp1 _ _ (by omega)).trans (hfn q hq).2.1, (hfn q hq).2.2⟩) (fun i2 hr8 e32 hc2 => ⟨1, hg.1 _ (by decide) _ (by decide) _ rfl, fun i3 e3 i4 e4 i5 e5 i6 e6 => ⟨3, hg.1 _ (by decide) _ (by decide) _ rfl, ?_⟩⟩)
    -- what the class has done
    have o6 : ∀ x g, ¬ (x = 1 ∧ g = 1) → ¬ (x = 0 ∧ (g = 3 ∨ g = 5 ∨ g = 7)) → i6 x g = i2 x g := by
      intro x g a b
      by_cases e : x = 0
      · subst e
        rw [e6, ju_eq, pk_un (by omega), e5, ju_eq, pk_un (by omega), e4, ju_eq, pk_un (by omega), e3, ju_ne (by decide)]
      · rw [e6, ju_ne e, e5, ju_ne e, e4, ju_ne e, e3]
        by_cases e1 : x = 1
        · subst e1; rw [ju_eq, pk_un (by omega)]
        · rw [ju_ne e1]
    have c12 : ∀ x g, x < 3 ∨ 8 < x → ¬ (x = 1 ∧ (g = 2 ∨ g = 3 ∨ g = 4)) → i2 x g = i x g := fun x g a b => (hc2 x g a).trans (hp1 x g b)
    have b03 : i6 0 3 = 0 := by rw [e6, ju_eq, pk_un (by decide), e5, ju_eq, pk_un (by decide), e4, ju_eq, pk_us]
    have b05 : i6 0 5 = 0 := by rw [e6, ju_eq, pk_un (by decide), e5, ju_eq, pk_us]
    have b07 : i6 0 7 = nI (nt + 1) := by
      rw [e6, ju_eq, pk_us, e5, ju_eq, pk_un (by decide), e4, ju_eq, pk_un (by decide), e3, ju_ne (by decide), c12 0 7 (by omega) (by omega), h2.2.1, nI_1]
    have b11 : i6 1 1 = 0 := by rw [e6, ju_ne (by decide), e5, ju_ne (by decide), e4, ju_ne (by decide), e3, ju_eq, pk_us]
    have g6 : ∀ x g, 8 < x → i6 x g = i x g := fun x g hx => (o6 x g (by omega) (by omega)).trans (c12 x g (by omega) (by omega))
    obtain ⟨q1, q2, q3, q4⟩ := hr8
    have e30 : i6 3 0 = nI (sm (lto i) f) := (o6 3 0 (by omega) (by omega)).trans q1
    rw [e30]
    -- the reference
    rw [J_X12_town]
    refine sp_readTown (C := lto i) hg hpl ((g6 _ _ (by decide)).trans h7.1) (fun q hq => ⟨(g6 _ _ (by decide)).trans (hfn q hq).1, (hfn q hq).2.2⟩) (fun i7 f2 hf2 e17 e18 hS hr2 => ?_)
    have e := fau_eq hf1 hf2
    subst e
    obtain ⟨⟨s1, s2, s3, s4, -, -⟩, ht⟩ := hS rfl
    obtain ⟨t1, t2, t3, t4, t5, t6, -, -, -, t10, -, t12⟩ := ht
    rw [e18, hw]
    refine ⟨fun _ i8 e8 i9 e9 => ?_, fun hh => absurd hh (by decide)⟩
    rw [s1] at e8
    have o8 : ∀ x g, ¬ (x = 37 ∧ g = 0) → i8 x g = i7 x g := fun x g hx => by
      rw [e8]
      by_cases e : x = 37
      · subst e; rw [ju_eq, pk_un (fun z => hx ⟨rfl, z⟩)]
      · rw [ju_ne e]
    rw [o8 37 20 (by omega), s2] at e9
    have o9 : ∀ x g, ¬ (x = 37 ∧ g = 5) → i9 x g = i8 x g := fun x g hx => by
      rw [e9]
      by_cases e : x = 37
      · subst e; rw [ju_eq, pk_un (fun z => hx ⟨rfl, z⟩)]
      · rw [ju_ne e]
    have e921 : i9 37 21 = bI (decide (ss (lto i) f = 6)) := by rw [o9 _ _ (by omega), o8 _ _ (by omega)]; exact s3
    rw [e921]
    refine ⟨by cases decide (ss (lto i) f = 6) <;> decide, fun i10 e10 => ⟨sm (lto i) f + 1, ?_⟩⟩
    have o10 : ∀ x g, ¬ (x = 37 ∧ (g = 0 ∨ g = 5 ∨ g = 6)) → i10 x g = i7 x g := fun x g hx => by
      rw [e10]
      by_cases e : x = 37
      · subst e; rw [ju_eq, pk_un (by omega), o9 _ _ (by omega), o8 _ _ (by omega)]
      · rw [ju_ne e, o9 _ _ (by omega), o8 _ _ (by omega)]
    have a0 : i10 37 0 = nI (sm (lto i) f) := by rw [e10, ju_eq, pk_un (by decide), o9 _ _ (by omega), e8, ju_eq, pk_us]
    have a5 : i10 37 5 = nI (sg (lto i) f) := by rw [e10, ju_eq, pk_un (by decide), e9, ju_eq, pk_us]
    have a6 : i10 37 6 = bI (decide (ss (lto i) f = 6)) := by rw [e10, ju_eq, pk_us]
    have a7 : i10 37 7 = nI nt := by rw [o10 _ _ (by omega), hr2 _ _ (by decide) (by decide) (by decide) (by decide) (by omega), g6 _ _ (by decide)]; exact h2.1
    refine lp_t40 (ns := sm (lto i) f) hg t2 a0 (fun i11 u1 u2 u7 u8 u12 u15 => ⟨rfl, ?_⟩) (sm (lto i) f) 0 i10 (by omega) (fun _ _ _ => rfl) (fun t ht => by omega)
    have keep : ∀ x g, (8 < x ∧ ¬ (38 ≤ x ∧ x ≤ 41) ∧ ¬ (47 ≤ x ∧ x ≤ 50) ∧ (x = 37 → g = 14 ∨ g = 42 ∨ g = 43 ∨ g = 44 ∨ g = 45)) → i11 x g = i x g := by
      intro x g hx
      rw [u1 x g (by omega) (by omega), o10 x g (by omega), hr2 x g (by omega) (by omega) (by omega) (by omega) (by omega), g6 x g (by omega)]
    have low : ∀ x g, x ≤ 8 → i11 x g = i6 x g := by
      intro x g hx
      rw [u1 x g (by omega) (by omega), o10 x g (by omega), hr2 x g (by omega) (by omega) (by omega) (by omega) (by omega)]
    have town8 : ∀ x g, 3 ≤ x → x ≤ 8 → i11 x g = i2 x g := fun x g a b => (low x g b).trans (o6 x g (by omega) (by omega))
    have hns : 0 < sm (lto i) f := t5 (by omega)
    have bi : ∀ b : Bool, bI b = (if b = true then 1 else 0) := fun _ => rfl
    refine ⟨sm (lto i) f, sg (lto i) f, nt + 1, 0, 0, dn, 0, dA (lto i) f, dB (lto i) f, dGt (lto i) f, dPc (lto i) f, decide (ss (lto i) f = 6), ⟨⟨?_, t2, ?_, fun s hs => ?_⟩, ⟨?_, t2, ?_, fun s hs => ?_⟩, fun s hs => (t6 s hs).2.2.2.1, ⟨?_, ?_, t4⟩, fun s hs => (t6 s hs).2.2.2.2, fun g hgg => ?_, t10⟩, ⟨?_, ?_, by have := h2.2.2.1; omega, ?_⟩, fun z => absurd z (Nat.lt_irrefl _), ⟨?_, ?_, by decide, fun w hw => absurd hw (Nat.not_lt_zero w)⟩, ⟨?_, ?_, by decide, fun w hw => absurd hw (Nat.not_lt_zero w)⟩, ⟨?_, ?_, h6.2.2⟩, ⟨?_, ?_, by decide, fun w hw => absurd hw (Nat.not_lt_zero w)⟩, ?_⟩
    · rw [u1 37 0 (by omega) (by omega)]; exact a0
    · rw [u1 37 6 (by omega) (by omega), a6, bi]
    · obtain ⟨v1, v2, v3, v4⟩ := u2 s hs
      obtain ⟨w1, w2, w3, w4⟩ := s4 s hs
      obtain ⟨x1, x2, x3, x4, x5⟩ := t6 s hs
      refine ⟨⟨?_, ?_, ?_, ?_⟩, x1, x2, x3, by omega, by omega⟩
      · rw [v1, o10 47 s (by omega)]; exact w1
      · rw [v2, o10 48 s (by omega)]; exact w2
      · rw [v3, o10 49 s (by omega)]; exact w3
      · rw [v4, o10 50 s (by omega)]; exact w4
    · rw [town8 3 0 (by decide) (by decide)]; exact q1
    · rw [town8 3 2 (by decide) (by decide), e32, bi]
    · obtain ⟨x1, x2, x3, x4, x5⟩ := t6 s hs
      rw [town8 4 s (by decide) (by decide), town8 5 s (by decide) (by decide), town8 6 s (by decide) (by decide), town8 7 s (by decide) (by decide)]
      exact ⟨q3 s hs, x1, x2, x3, by omega, by omega⟩
    · rw [u1 37 5 (by omega) (by omega)]; exact a5
    · rw [town8 3 1 (by decide) (by decide)]; exact q2
    · rw [town8 8 g (by decide) (by decide)]; exact q4 g hgg
    · rw [u7, a7, nI_1]
    · rw [low 0 7 (by decide)]; exact b07
    · exact ⟨fun z => by omega, fun z => by omega⟩
    · rw [u8]; rfl
    · rw [low 0 3 (by decide), b03]; rfl
    · rw [u12]; rfl
    · rw [low 0 5 (by decide), b05]; rfl
    · rw [keep 37 14 (by omega)]; exact h6.1
    · rw [low 0 8 (by decide), o6 0 8 (by omega) (by omega), c12 0 8 (by omega) (by omega)]; exact h6.2.1
    · rw [u15]; rfl
    · rw [low 1 1 (by decide), b11]; rfl
    · unfold RI
      rw [keep 37 42 (by omega), keep 37 43 (by omega), keep 11 0 (by omega)]
      rcases h8 with z | ⟨kt, z1, z2, z3, z4, z5, -⟩
      · exact Or.inl z
      · exact Or.inr ⟨kt, z1, by omega, z3, z4, z5, fun e => by omega⟩
end OkTown
