/-! the class reads the town -/
def rw8 (C : Nat → Nat) (i : jI) (q : Nat) : Prop := i 3 0 = nI (sm C q) ∧ i 3 1 = nI (sg C q) ∧ (∀ t, t < sm C q → i 4 t = nI (dA C q t) ∧ i 5 t = nI (dB C q t) ∧ i 6 t = nI (dPc C q t) ∧ i 7 t = nI (dGt C q t) - 1) ∧ ∀ g, g < sg C q → ∃ t, t < sm C q ∧ dGt C q t = g + 1 ∧ i 8 g = nI t
def cF (i i' : jI) : Prop := ∀ x f, x < 3 ∨ 8 < x → i' x f = i x f
theorem cF.rf {i : jI} : cF i i := fun _ _ _ => rfl
theorem cF.tr {i i1 i2 : jI} (h1 : cF i i1) (h2 : cF i1 i2) : cF i i2 := fun x f h => (h2 x f h).trans (h1 x f h)
theorem cF_ju {i : jI} {k f : Nat} {v : Int32} (h : 3 ≤ k ∧ k ≤ 8) : cF i (ju i k f v) := fun x g hx => by rw [ju_ne (by omega)]
/-- what a whole page is -/
def okp (C : Nat → Nat) (pl : Nat) : Prop := (∀ t, t ≤ pl → ss C t ≠ 7) ∧ (ss C pl = 3 ∨ ss C pl = 4 ∨ ss C pl = 6)
section RdC
variable {len : Nat → Nat} {r : jR} {i : jI} {j : jL} {C : Nat → Nat} {q pl : Nat}
theorem tI_all (h : ∀ t, t ≤ pl → ss C t ≠ 7) : ∀ q, q ≤ pl → tI C q := by
  intro q
  induction q with
  | zero => intro _; exact tI_0
  | succ q ih => intro hq; exact tI_1 (ih (by omega)) (h (q + 1) hq)
theorem okp_f (h : okp C pl) (h0 : 0 < pl) : (C (pl - 1) = 102 ↔ ss C pl = 6) := by
  obtain ⟨q, rfl⟩ : ∃ q, pl = q + 1 := ⟨pl - 1, by omega⟩
  have ht := tI_all h.1 q (by omega)
  have hw := h.2
  rw [Nat.add_sub_cancel]
  rcases (show ss C q = 0 ∨ ss C q = 1 ∨ ss C q = 2 ∨ ss C q = 3 ∨ ss C q = 4 ∨ ss C q = 5 ∨ ss C q = 6 by have := ht.1; omega) with e | e | e | e | e | e | e
  · have f1 := (st_0 e).1
    rw [f1] at hw
    split at hw <;> omega
  · have f1 := (st_1 e).1
    rw [f1] at hw
    split at hw <;> omega
  · have f1 := (st_2 e).1
    rw [f1] at hw ⊢
    by_cases hc : 48 ≤ C q ∧ C q < 58
    · rw [if_pos hc]; omega
    · rw [if_neg hc] at hw; omega
  · by_cases hc : C q = 33
    · have f1 := (st_3g e hc).1
      rw [f1] at hw ⊢
      by_cases hg : sg C q < 3
      · rw [if_pos hg]; omega
      · rw [if_neg hg] at hw; omega
    · have f1 := (st_34 (Or.inl ⟨e, hc⟩)).1
      have hn := h.1 (q + 1) (Nat.le_refl _)
      rw [f1] at hw hn
      rcases nxt5_le _ _ hn with ⟨z, -⟩ | ⟨z, -⟩ <;> omega
  · have f1 := (st_34 (Or.inr e)).1
    have hn := h.1 (q + 1) (Nat.le_refl _)
    rw [f1] at hw hn
    rcases nxt5_le _ _ hn with ⟨z, -⟩ | ⟨z, -⟩ <;> omega
  · have f1 := (st_56 (Or.inl e)).1
    rw [f1] at hw ⊢
    by_cases hc : ss C q = 5 ∧ C q = 102
    · rw [if_pos hc]; exact ⟨fun _ => rfl, fun _ => hc.2⟩
    · rw [if_neg hc] at hw; omega
  · have f1 := (st_56 (Or.inr e)).1
    rw [f1] at hw
    rw [if_neg (by omega)] at hw
    omega
theorem sp_hasAt {Q : Int32 → jI → jL → Prop} {at' k : Nat} (hg : Gr r len) (hpl : pl ≤ 50) (epl : i 1 1 = nI pl) (hC : ∀ q, q < pl → i 2 q = nI (C q) ∧ C q < 127) (ha : at' < 1000) (hk : k < 127) (hQ : Q (if at' < pl ∧ C at' = k then 1 else 0) i j) : J_X5_hasAt len r Q i j 1 (nI at') (nI k) := by
  rw [J_X5_hasAt, epl]
  refine ⟨fun hh => absurd hh (nI_pos (by omega)), fun _ => pk_le pl at' (fun hle => ?_) (fun hlt => ?_)⟩
  · rw [J_X5_hasAt_L26]
    rw [if_neg (by omega)] at hQ
    exact hQ
  · obtain ⟨h1, h2⟩ := hC at' hlt
    refine ⟨2, hg.1 _ (by decide) _ (by decide) _ rfl, by rw [hg.2 _ (by decide)]; exact vp_in_nI (show at' < 50 by omega) (by decide), ?_⟩
    rw [nI_clamp (by omega), h1]
    refine ⟨fun hne => ?_, fun heq => ?_⟩
    · rw [J_X5_hasAt_L26]
      rw [if_neg (fun z => hne (by rw [z.2]))] at hQ
      exact hQ
    · rw [if_pos ⟨hlt, (nI_eq (by omega) (by omega)).mp heq⟩] at hQ
      exact hQ
theorem sp_digit {Q : Int32 → jI → jL → Prop} {at' : Nat} (hg : Gr r len) (hpl : pl ≤ 50) (hC : ∀ q, q < pl → i 2 q = nI (C q) ∧ C q < 127) (ha : at' < pl) (h48 : 48 ≤ C at') (hQ : Q (nI (C at' - 48)) i j) : J_X5_digitAt len r Q i j 1 (nI at') := by
  rw [J_X5_digitAt]
  refine ⟨2, hg.1 _ (by decide) _ (by decide) _ rfl, by rw [hg.2 _ (by decide)]; exact vp_in_nI (show at' < 50 by omega) (by decide), ?_⟩
  rw [nI_clamp (by omega), (hC at' ha).1, show nI (C at') - (48 : Int32) = nI (C at' - 48) from pk_sub (b := 48) h48]
  exact hQ
theorem lp_exit {Q : jI → jL → Prop} {n at' : Nat} (hg : Gr r len) (hpl : pl ≤ 50) (hok : okp C pl) (h0 : 0 < pl) (epl : i 1 1 = nI pl) (hC : ∀ q, q < pl → i 2 q = nI (C q) ∧ C q < 127) (ha : at' < 100) (hx : pl ≤ at' + 2) (hr : rw8 C i pl) (hQ : ∀ i', rw8 C i' pl → i' 3 2 = bI (decide (ss C pl = 6)) → cF i i' → Q i' j) : J_X8_read_L12 len r Q (n + 1) i j 3 1 (nI at') := by
  have l163 : J_X8_read_L163 len r Q i j 3 1 := by
    rw [J_X8_read_L163, epl]
    have ep : nI pl - (1 : Int32) = nI (pl - 1) := by
      have := nI_pred (pl - 1)
      rw [show pl - 1 + 1 = pl by omega] at this
      exact this
    rw [ep]
    refine sp_hasAt (C := C) (k := 102) hg hpl epl hC (by omega) (by decide) ?_
    have e : (if pl - 1 < pl ∧ C (pl - 1) = 102 then (1 : Int32) else 0) = bI (decide (ss C pl = 6)) := by
      by_cases h6 : ss C pl = 6
      · rw [if_pos ⟨by omega, (okp_f hok h0).mpr h6⟩, h6]; rfl
      · rw [if_neg (fun z => h6 ((okp_f hok h0).mp z.2)), decide_eq_false h6]; rfl
    rw [e]
    refine ⟨by cases decide (ss C pl = 6) <;> decide, fun i1 e1 => hQ i1 ?_ (by rw [e1, ju_eq, pk_us]) (by rw [e1]; exact cF_ju (by omega))⟩
    have o : ∀ x f, ¬ (x = 3 ∧ f = 2) → i1 x f = i x f := fun x f hx => by
      rw [e1]
      by_cases e : x = 3
      · subst e; rw [ju_eq, pk_un (fun z => hx ⟨rfl, z⟩)]
      · rw [ju_ne e]
    obtain ⟨r1, r2, r3, r4⟩ := hr
    refine ⟨(o _ _ (by omega)).trans r1, (o _ _ (by omega)).trans r2, fun t ht => ?_, fun g hg => ?_⟩
    · rw [o 4 t (by omega), o 5 t (by omega), o 6 t (by omega), o 7 t (by omega)]; exact r3 t ht
    · rw [o 8 g (by omega)]; exact r4 g hg
  have ht := tI_all hok.1 pl (Nat.le_refl _)
  have hm := ht.2.1
  rw [J_X8_read_L12]
  dsimp only
  rw [hr.1, epl, show nI at' + (2 : Int32) = nI (at' + 2) from nI_add at' 2]
  refine pk_le 10 (sm C pl) (fun _ => l163) (fun _ => ⟨fun _ => l163, fun hh => absurd (nI_le hx (by omega)) hh⟩)
theorem lp_read {Q : jI → jL → Prop} {i0 : jI} (hg : Gr r len) (hpl : pl ≤ 50) (hok : okp C pl) (epl : i0 1 1 = nI pl) (hC : ∀ q, q < pl → i0 2 q = nI (C q) ∧ C q < 127) (hQ : ∀ i', rw8 C i' pl → i' 3 2 = bI (decide (ss C pl = 6)) → cF i0 i' → Q i' j) : ∀ (n at' : Nat) (i : jI), pl ≤ at' + n → at' < pl → ss C at' = 0 → rw8 C i at' → cF i0 i → J_X8_read_L12 len r Q (n + 1) i j 3 1 (nI at') := by
  have hT := tI_all hok.1
  have hep : ∀ i, cF i0 i → i 1 1 = nI pl := fun i hf => (hf 1 1 (by omega)).trans epl
  have hCi : ∀ i, cF i0 i → ∀ q, q < pl → i 2 q = nI (C q) ∧ C q < 127 := fun i hf q hq => ⟨(hf 2 q (by omega)).trans (hC q hq).1, (hC q hq).2⟩
  intro n
  induction n with
  | zero => intro at' i h1 h2; omega
  | succ n ih =>
    intro at' i hn hat h0 hr hf
    obtain ⟨a1, a2, a3, a4, a5, a6, a7⟩ := st_0 h0
    have t0 := hT at' (by omega)
    have hm10 := t0.2.2.1 (by omega)
    have n1 := hok.1 (at' + 1) (by omega)
    have c0 : 48 ≤ C at' ∧ C at' < 55 := by
      by_cases hc : 48 ≤ C at' ∧ C at' < 55
      · exact hc
      · rw [a1, if_neg hc] at n1; exact absurd rfl n1
    rw [if_pos c0] at a1
    have hat1 : at' + 1 < pl := by
      rcases Nat.lt_or_ge (at' + 1) pl with z | z
      · exact z
      · have e : at' + 1 = pl := by omega
        have := hok.2
        rw [← e, a1] at this
        omega
    obtain ⟨b1, b2, b3, b4, b5, b6, b7⟩ := st_1 a1
    have n2 := hok.1 (at' + 1 + 1) (by omega)
    have c1 : (48 ≤ C (at' + 1) ∧ C (at' + 1) < 55) ∧ C (at' + 1) ≠ C (at' + 1 - 1) := by
      by_cases hc : (48 ≤ C (at' + 1) ∧ C (at' + 1) < 55) ∧ C (at' + 1) ≠ C (at' + 1 - 1)
      · exact hc
      · rw [b1, if_neg hc] at n2; exact absurd rfl n2
    rw [if_pos c1] at b1
    have hat2 : at' + 1 + 1 < pl := by
      rcases Nat.lt_or_ge (at' + 1 + 1) pl with z | z
      · exact z
      · have e : at' + 1 + 1 = pl := by omega
        have := hok.2
        rw [← e, b1] at this
        omega
    obtain ⟨d1, d2, d3, d4, d5, d6, d7⟩ := st_2 b1
    have n3 := hok.1 (at' + 1 + 1 + 1) (by omega)
    have c2 : 48 ≤ C (at' + 1 + 1) ∧ C (at' + 1 + 1) < 58 := by
      by_cases hc : 48 ≤ C (at' + 1 + 1) ∧ C (at' + 1 + 1) < 58
      · exact hc
      · rw [d1, if_neg hc] at n3; exact absurd rfl n3
    rw [if_pos c2] at d1
    rw [b2, a2] at d2
    rw [b3, a3] at d3
    rw [b4, a4] at d4
    rw [b5, a5, a2] at d5
    rw [b6, a6, b2, a2] at d6
    rw [b7, a7, b2, a2] at d7
    obtain ⟨r1, r2, r3, r4⟩ := hr
    have hm : (nI (sm C at')).toNatClampNeg = sm C at' := nI_clamp (by omega)
    have hvm : vp_in (nI (sm C at')) 10 := vp_in_nI (by omega) (by decide)
    -- behind a street at e
    have cont : ∀ (e : Nat) (i' : jI), at' + 3 ≤ e → e ≤ pl → (ss C e = 3 ∨ ss C e = 4) → (ss C e = 3 → e < pl → C e ≠ 33) → rw8 C i' e → cF i0 i' → J_X8_read_L12 len r Q (n + 1) i' j 3 1 (nI (e + 1)) := by
      intro e i' he1 he2 hs h33 hr' hf'
      rcases Nat.lt_or_ge e pl with hlt | hge
      · obtain ⟨g1, g2, g3, g4, g5, g6, g7⟩ := st_34 (C := C) (q := e) (by
          rcases hs with z | z
          · exact Or.inl ⟨z, h33 z hlt⟩
          · exact Or.inr z)
        have nn := hok.1 (e + 1) (by omega)
        have same : rw8 C i' (e + 1) := by
          unfold rw8
          rw [g2, g3, g4, g5, g6, g7]
          exact hr'
        rw [g1] at nn
        rcases nxt5_le _ _ nn with ⟨z, -⟩ | ⟨z, -⟩
        · rw [z] at g1
          have hlt2 : e + 1 < pl := by
            rcases Nat.lt_or_ge (e + 1) pl with y | y
            · exact y
            · have e' : e + 1 = pl := by omega
              have := hok.2
              rw [← e', g1] at this
              omega
          exact ih (e + 1) i' (by omega) hlt2 g1 same hf'
        · rw [z] at g1
          have hlt2 : e + 1 < pl := by
            rcases Nat.lt_or_ge (e + 1) pl with y | y
            · exact y
            · have e' : e + 1 = pl := by omega
              have := hok.2
              rw [← e', g1] at this
              omega
          obtain ⟨k1, k2, k3, k4, k5, k6, k7⟩ := st_56 (C := C) (q := e + 1) (Or.inl g1)
          have nn2 := hok.1 (e + 1 + 1) (by omega)
          have k1' : ss C (e + 1 + 1) = 6 := by
            by_cases hc : ss C (e + 1) = 5 ∧ C (e + 1) = 102
            · rw [k1, if_pos hc]
            · rw [k1, if_neg hc] at nn2; exact absurd rfl nn2
          have hpe : pl = e + 1 + 1 := by
            rcases Nat.lt_or_ge (e + 1 + 1) pl with y | y
            · have := (st_56 (C := C) (q := e + 1 + 1) (Or.inr k1')).1
              rw [k1', if_neg (by omega)] at this
              exact absurd this (hok.1 _ (by omega))
            · omega
          have same2 : rw8 C i' pl := by
            rw [hpe]
            unfold rw8
            rw [k2, k3, k4, k5, k6, k7]
            exact same
          exact lp_exit hg hpl hok (by omega) (hep i' hf') (hCi i' hf') (by omega) (by omega) same2 (fun i2 x1 x2 x3 => hQ i2 x1 x2 (hf'.tr x3))
      · have e' : e = pl := by omega
        subst e'
        exact lp_exit hg hpl hok (by omega) (hep i' hf') (hCi i' hf') (by omega) (by omega) hr' (fun i2 x1 x2 x3 => hQ i2 x1 x2 (hf'.tr x3))
    rw [J_X8_read_L12]
    dsimp only
    rw [r1, hep i hf, hm, show nI at' + (2 : Int32) = nI (at' + 2) from nI_add at' 2, show nI at' + (1 : Int32) = nI (at' + 1) from nI_add at' 1, show nI at' + (3 : Int32) = nI (at' + 3) from nI_add at' 3]
    refine ⟨fun hh => absurd hh (nI_ge (b := 10) (by omega) (by decide)), fun _ => ⟨fun hh => absurd hh (nI_ge (by omega) (by omega)), fun _ => ⟨4, hg.1 _ (by decide) _ (by decide) _ rfl, sp_digit hg hpl (hCi i hf) hat c0.1 ⟨by rw [hg.2 _ (by decide)]; exact hvm, fun i1 e1 => ⟨5, hg.1 _ (by decide) _ (by decide) _ rfl, ?_⟩⟩⟩⟩⟩
    have f1 : cF i0 i1 := hf.tr (by rw [e1]; exact cF_ju (by omega))
    have o1 : ∀ x f, x ≠ 4 → i1 x f = i x f := fun x f hx => by rw [e1, ju_ne hx]
    refine sp_digit hg hpl (hCi i1 f1) hat1 c1.1.1 ?_
    rw [o1 3 0 (by decide), r1, hm]
    refine ⟨by rw [hg.2 _ (by decide)]; exact hvm, fun i2 e2 => ⟨6, hg.1 _ (by decide) _ (by decide) _ rfl, ?_⟩⟩
    have f2 : cF i0 i2 := f1.tr (by rw [e2]; exact cF_ju (by omega))
    have o2 : ∀ x f, x ≠ 5 → i2 x f = i1 x f := fun x f hx => by rw [e2, ju_ne hx]
    refine sp_digit hg hpl (hCi i2 f2) hat2 c2.1 ?_
    rw [o2 3 0 (by decide), o1 3 0 (by decide), r1, hm]
    refine ⟨by rw [hg.2 _ (by decide)]; exact hvm, fun i3 e3 => ⟨7, hg.1 _ (by decide) _ (by decide) _ rfl, ?_⟩⟩
    have f3 : cF i0 i3 := f2.tr (by rw [e3]; exact cF_ju (by omega))
    have o3 : ∀ x f, x ≠ 6 → i3 x f = i2 x f := fun x f hx => by rw [e3, ju_ne hx]
    rw [o3 3 0 (by decide), o2 3 0 (by decide), o1 3 0 (by decide), r1, hm]
    refine ⟨by rw [hg.2 _ (by decide)]; exact hvm, fun i4 e4 v87 e87 => ?_⟩
    subst e87
    have f4 : cF i0 i4 := f3.tr (by rw [e4]; exact cF_ju (by omega))
    have o4 : ∀ x f, x ≠ 7 → i4 x f = i3 x f := fun x f hx => by rw [e4, ju_ne hx]
    have r41 : i4 3 1 = nI (sg C at') := by rw [o4 _ _ (by decide), o3 _ _ (by decide), o2 _ _ (by decide), o1 _ _ (by decide)]; exact r2
    have r40 : i4 3 0 = nI (sm C at') := by rw [o4 _ _ (by decide), o3 _ _ (by decide), o2 _ _ (by decide), o1 _ _ (by decide)]; exact r1
    have rows : ∀ t, t < sm C at' + 1 → i4 4 t = nI (dA C (at' + 3) t) ∧ i4 5 t = nI (dB C (at' + 3) t) ∧ i4 6 t = nI (dPc C (at' + 3) t) ∧ i4 7 t = nI (dGt C (at' + 3) t) - 1 := by
      intro t ht
      rw [show at' + 3 = at' + 1 + 1 + 1 from rfl, d4, d5, d6, d7]
      rw [o4 4 t (by decide), o4 5 t (by decide), o4 6 t (by decide), o3 4 t (by decide), o3 5 t (by decide), o2 4 t (by decide), e1, ju_eq, e2, ju_eq, e3, ju_eq, e4, ju_eq]
      by_cases e : t = sm C at'
      · subst e
        rw [pk_us, pk_us, pk_us, pk_us, sU_eq, sU_eq, sU_eq, sU_eq]
        exact ⟨rfl, rfl, rfl, by decide⟩
      · rw [pk_un e, pk_un e, pk_un e, pk_un e, sU_ne e, sU_ne e, sU_ne e, sU_ne e]
        obtain ⟨y1, y2, y3, y4⟩ := r3 t (by omega)
        refine ⟨y1, ?_, ?_, ?_⟩
        · rw [o1 5 t (by decide)]; exact y2
        · rw [o2 6 t (by decide), o1 6 t (by decide)]; exact y3
        · rw [o3 7 t (by decide), o2 7 t (by decide), o1 7 t (by decide)]; exact y4
    have i48 : ∀ g, i4 8 g = i 8 g := fun g => by rw [o4 _ _ (by decide), o3 _ _ (by decide), o2 _ _ (by decide), o1 _ _ (by decide)]
    have e33 : sm C (at' + 3) = sm C at' + 1 := d2
    have e34 : sg C (at' + 3) = sg C at' := d3
    have d7' : dGt C (at' + 3) = sU (dGt C at') (sm C at') 0 := d7
    -- no gate
    have plain : (at' + 3 < pl → C (at' + 3) ≠ 33) → J_X8_read_L147 len r Q (J_X8_read_L12 len r Q (n + 1)) i4 j 3 1 (nI (at' + 3)) := by
      intro h33
      rw [J_X8_read_L147]
      intro i5 e5 v ev
      rw [r40, nI_1] at e5
      rw [nI_1] at ev
      subst ev
      have o5 : ∀ x f, ¬ (x = 3 ∧ f = 0) → i5 x f = i4 x f := fun x f hx => by
        rw [e5]
        by_cases e : x = 3
        · subst e; rw [ju_eq, pk_un (fun z => hx ⟨rfl, z⟩)]
        · rw [ju_ne e]
      refine cont (at' + 3) i5 (Nat.le_refl _) (by omega) (Or.inl d1) (fun _ z => h33 z) ⟨by rw [e5, ju_eq, pk_us, e33], by rw [o5 _ _ (by omega), e34]; exact r41, fun t ht => ?_, fun g hg => ?_⟩ (f4.tr (by rw [e5]; exact cF_ju (by omega)))
      · rw [o5 4 t (by omega), o5 5 t (by omega), o5 6 t (by omega), o5 7 t (by omega)]
        exact rows t (by omega)
      · rw [e34] at hg
        obtain ⟨t, y1, y2, y3⟩ := r4 g hg
        refine ⟨t, by omega, ?_, ?_⟩
        · rw [d7', sU_ne (by omega)]; exact y2
        · rw [o5 8 g (by omega), i48]; exact y3
    rw [r41]
    have hsg : sg C at' ≤ 3 := t0.2.2.2.1
    refine pk_le 3 (sg C at') (fun hge => plain (fun hlt h33 => ?_)) (fun hlt3 => ?_)
    · have := (st_3g (C := C) (q := at' + 3) d1 h33).1
      rw [e34, if_neg (by omega)] at this
      exact absurd this (hok.1 _ (by omega))
    · refine sp_hasAt (C := C) (k := 33) hg hpl (hep i4 f4) (hCi i4 f4) (by omega) (by decide) ?_
      by_cases h33 : at' + 3 < pl ∧ C (at' + 3) = 33
      · rw [if_pos h33]
        obtain ⟨k1, k2, k3, k4, k5, k6, k7⟩ := st_3g (C := C) (q := at' + 3) d1 h33.2
        rw [e34, if_pos hlt3] at k1
        rw [e33] at k2
        rw [e34] at k3
        rw [e33, e34, Nat.add_sub_cancel] at k7
        refine ⟨fun hh => absurd hh (by decide), fun _ => ⟨7, hg.1 _ (by decide) _ (by decide) _ rfl, ?_⟩⟩
        rw [r40, hm]
        refine ⟨by rw [hg.2 _ (by decide)]; exact hvm, fun i5 e5 => ⟨8, hg.1 _ (by decide) _ (by decide) _ rfl, ?_⟩⟩
        have o5 : ∀ x f, x ≠ 7 → i5 x f = i4 x f := fun x f hx => by rw [e5, ju_ne hx]
        rw [o5 3 1 (by decide), o5 3 0 (by decide), r41, r40, nI_clamp (by omega)]
        refine ⟨by rw [hg.2 _ (by decide)]; exact vp_in_nI hlt3 (by decide), fun i6 e6 i7 e7 v ev => ?_⟩
        have o6 : ∀ x f, x ≠ 8 → i6 x f = i5 x f := fun x f hx => by rw [e6, ju_ne hx]
        rw [o6 3 1 (by decide), o5 3 1 (by decide), r41, nI_1] at e7
        rw [nI_1] at ev
        subst ev
        rw [J_X8_read_L147]
        intro i8 e8 v2 ev2
        have o7 : ∀ x f, ¬ (x = 3 ∧ f = 1) → i7 x f = i6 x f := fun x f hx => by
          rw [e7]
          by_cases e : x = 3
          · subst e; rw [ju_eq, pk_un (fun z => hx ⟨rfl, z⟩)]
          · rw [ju_ne e]
        have r70 : i7 3 0 = nI (sm C at') := by rw [o7 _ _ (by omega), o6 _ _ (by decide), o5 _ _ (by decide)]; exact r40
        rw [r70, nI_1] at e8
        rw [nI_1] at ev2
        subst ev2
        have o8 : ∀ x f, ¬ (x = 3 ∧ f = 0) → i8 x f = i7 x f := fun x f hx => by
          rw [e8]
          by_cases e : x = 3
          · subst e; rw [ju_eq, pk_un (fun z => hx ⟨rfl, z⟩)]
          · rw [ju_ne e]
        refine cont (at' + 3 + 1) i8 (by omega) (by omega) (Or.inr k1) (fun z => by omega) ⟨by rw [e8, ju_eq, pk_us, k2], ?_, fun t ht => ?_, fun g hg => ?_⟩ ?_
        · rw [o8 _ _ (by omega), e7, ju_eq, pk_us, k3]
        · rw [k4, k5, k6, k7]
          rw [o8 4 t (by omega), o8 5 t (by omega), o8 6 t (by omega), o8 7 t (by omega), o7 4 t (by omega), o7 5 t (by omega), o7 6 t (by omega), o7 7 t (by omega), o6 4 t (by decide), o6 5 t (by decide), o6 6 t (by decide), o6 7 t (by decide), o5 4 t (by decide), o5 5 t (by decide), o5 6 t (by decide), e5, ju_eq]
          obtain ⟨y1, y2, y3, y4⟩ := rows t (by omega)
          refine ⟨y1, y2, y3, ?_⟩
          by_cases e : t = sm C at'
          · subst e; rw [pk_us, sU_eq, r41, nI_pred]
          · rw [pk_un e, sU_ne e]; exact y4
        · rw [k3] at hg
          rw [o8 8 g (by omega), o7 8 g (by omega), e6, ju_eq]
          by_cases e : g = sg C at'
          · subst e
            exact ⟨sm C at', by omega, by rw [k7, sU_eq], by rw [pk_us]⟩
          · obtain ⟨t, y1, y2, y3⟩ := r4 g (by omega)
            refine ⟨t, by omega, ?_, ?_⟩
            · rw [k7, sU_ne (by omega), d7', sU_ne (by omega)]; exact y2
            · rw [pk_un e, o5 8 g (by decide), i48]; exact y3
        · have f5 : cF i0 i5 := f4.tr (by rw [e5]; exact cF_ju (by omega))
          have f6 : cF i0 i6 := f5.tr (by rw [e6]; exact cF_ju (by omega))
          have f7 : cF i0 i7 := f6.tr (by rw [e7]; exact cF_ju (by omega))
          exact f7.tr (by rw [e8]; exact cF_ju (by omega))
      · rw [if_neg h33]
        exact ⟨fun _ => plain (fun z z2 => h33 ⟨z, z2⟩), fun hh => absurd rfl hh⟩
theorem sp_read {Q : jI → jL → Prop} (hg : Gr r len) (hpl : pl ≤ 50) (hok : okp C pl) (h0 : 0 < pl) (epl : i 1 1 = nI pl) (hC : ∀ q, q < pl → i 2 q = nI (C q) ∧ C q < 127) (hQ : ∀ i', rw8 C i' pl → i' 3 2 = bI (decide (ss C pl = 6)) → cF i i' → Q i' j) : J_X8_read len r Q i j 3 1 := by
  rw [J_X8_read]
  intro i1 e1 i2 e2
  have f2 : cF i i2 := by rw [e2, e1]; exact (cF_ju (by omega)).tr (cF_ju (by omega))
  exact ⟨pl + 1, lp_read hg hpl hok ((f2 _ _ (by omega)).trans epl) (fun q hq => ⟨(f2 _ _ (by omega)).trans (hC q hq).1, (hC q hq).2⟩) (fun i' a b c => hQ i' a b (f2.tr c)) pl 0 i2 (by omega) h0 rfl ⟨by rw [e2, ju_eq, pk_un (by decide), e1, ju_eq, pk_us]; rfl, by rw [e2, ju_eq, pk_us]; rfl, fun t ht => absurd ht (Nat.not_lt_zero t), fun g hg => absurd hg (Nat.not_lt_zero g)⟩ cF.rf⟩
end RdC
