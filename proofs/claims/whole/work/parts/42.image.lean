/-! loops that copy -/
/-- row d has got n places from row s, from x on -/
def cpr (i i' : jI) (d s x n : Nat) : Prop := (∀ c, c ≠ d → i' c = i c) ∧ ∀ z, i' d z = if x ≤ z ∧ z < n then i s z else i d z
theorem cpr_end {i : jI} {d s n : Nat} : cpr i i d s n n := ⟨fun _ _ => rfl, fun z => by rw [if_neg (by omega)]⟩
theorem cpr_step {i i' : jI} {d s x n : Nat} (hd : s ≠ d) (hx : x < n) (h : cpr (ju i d x (i s x)) i' d s (x + 1) n) : cpr i i' d s x n := by
  obtain ⟨h1, h2⟩ := h
  refine ⟨fun c hc => by rw [h1 c hc, ju_ne hc], fun z => ?_⟩
  rw [h2 z, ju_ne hd, ju_eq]
  by_cases hz : z = x
  · subst hz
    rw [if_neg (by omega), if_pos ⟨Nat.le_refl _, hx⟩]
    simp [upd]
  · by_cases hz2 : x ≤ z ∧ z < n
    · rw [if_pos (by omega), if_pos hz2]
    · rw [if_neg (by omega), if_neg hz2]
      simp [upd, hz]
theorem cpr_jcp {i : jI} {a d n : Nat} : cpr i (jcp i a d 0 0 n) d a 0 n := by
  refine ⟨fun c hc => if_neg hc, fun z => ?_⟩
  simp only [jcp, if_true, va_cpy]
  by_cases hz : z < n
  · rw [if_pos ⟨Nat.zero_le _, by omega⟩, if_pos ⟨Nat.zero_le _, hz⟩]
    simp
  · rw [if_neg (by omega), if_neg (by omega)]
section Image
variable {len : Nat → Nat} {r : jR} {Q : Int32 → jI → jL → Prop} {j : jL} {k : Nat}
theorem lp_img104 (hg : Gr r len) : ∀ (m x : Nat) (i : jI), x + m = 6 → (∀ i', cpr i i' 64 45 x 6 → Q (i' 37 8) i' j) → J_X12_image_L104 len r Q (m + 1) i j 37 (nI x) := by
  intro m
  induction m with
  | zero =>
    intro x i hx h
    have hx6 : x = 6 := by omega
    subst hx6
    rw [J_X12_image_L104]
    exact ⟨fun _ => h i cpr_end, fun hh => absurd (by decide) hh⟩
  | succ m ih =>
    intro x i hx h
    have ec : (nI x).toNatClampNeg = x := nI_clamp (by omega)
    have hv : vp_in (nI x) 6 := vp_in_nI (by omega) (by decide)
    rw [J_X12_image_L104]
    refine ⟨fun hh => absurd hh (nI_ge (b := 6) (by omega) (by decide)), fun _ => ⟨_, hg.1 _ (by decide) _ (by decide) _ rfl, _, hg.1 _ (by decide) _ (by decide) _ rfl, by rw [hg.2 _ (by decide)]; exact hv, by rw [hg.2 _ (by decide)]; exact hv, fun i1 e1 v e => ?_⟩⟩
    rw [nI_1] at e
    subst e
    rw [ec] at e1
    subst e1
    exact ih (x + 1) _ (by omega) (fun i' hc => h i' (cpr_step (by decide) (by omega) hc))
theorem lp_img78 (hg : Gr r len) : ∀ (m x : Nat) (i : jI), x + m = 10 → (∀ i' i'', cpr i i' 63 40 x 10 → cpr i' i'' 64 45 0 6 → Q (i'' 37 8) i'' j) → J_X12_image_L78 len r Q (m + 1) i j 37 (nI x) := by
  intro m
  induction m with
  | zero =>
    intro x i hx h
    have hx6 : x = 10 := by omega
    subst hx6
    rw [J_X12_image_L78]
    exact ⟨fun _ => ⟨7, lp_img104 hg 6 0 i rfl (fun i' hc => h i i' cpr_end hc)⟩, fun hh => absurd (by decide) hh⟩
  | succ m ih =>
    intro x i hx h
    have ec : (nI x).toNatClampNeg = x := nI_clamp (by omega)
    have hv : vp_in (nI x) 10 := vp_in_nI (by omega) (by decide)
    rw [J_X12_image_L78]
    refine ⟨fun hh => absurd hh (nI_ge (b := 10) (by omega) (by decide)), fun _ => ⟨_, hg.1 _ (by decide) _ (by decide) _ rfl, _, hg.1 _ (by decide) _ (by decide) _ rfl, by rw [hg.2 _ (by decide)]; exact hv, by rw [hg.2 _ (by decide)]; exact hv, fun i1 e1 v e => ?_⟩⟩
    rw [nI_1] at e
    subst e
    rw [ec] at e1
    subst e1
    exact ih (x + 1) _ (by omega) (fun i' i'' hc hd => h i' i'' (cpr_step (by decide) (by omega) hc) hd)
/-- two rows have got n places, from x on -/
def cpr2 (i i' : jI) (d s d2 s2 x n : Nat) : Prop := (∀ c, c ≠ d → c ≠ d2 → i' c = i c) ∧ (∀ z, i' d z = if x ≤ z ∧ z < n then i s z else i d z) ∧ ∀ z, i' d2 z = if x ≤ z ∧ z < n then i s2 z else i d2 z
theorem cpr2_end {i : jI} {d s d2 s2 n : Nat} : cpr2 i i d s d2 s2 n n := ⟨fun _ _ _ => rfl, fun z => by rw [if_neg (by omega)], fun z => by rw [if_neg (by omega)]⟩
theorem cpr2_step {i i' : jI} {d s d2 s2 x n : Nat} (h1 : s ≠ d) (h2 : s ≠ d2) (h3 : s2 ≠ d) (h4 : s2 ≠ d2) (h5 : d ≠ d2) (hx : x < n) (h : cpr2 (ju (ju i d x (i s x)) d2 x (ju i d x (i s x) s2 x)) i' d s d2 s2 (x + 1) n) : cpr2 i i' d s d2 s2 x n := by
  obtain ⟨a1, a2, a3⟩ := h
  refine ⟨fun c hc hc2 => by rw [a1 c hc hc2, ju_ne hc2, ju_ne hc], fun z => ?_, fun z => ?_⟩
  · rw [a2 z, ju_ne h2, ju_ne h1, ju_ne h5, ju_eq]
    by_cases hz : z = x
    · subst hz
      rw [if_neg (by omega), if_pos ⟨Nat.le_refl _, hx⟩]
      simp [upd]
    · by_cases hz2 : x ≤ z ∧ z < n
      · rw [if_pos (by omega), if_pos hz2]
      · rw [if_neg (by omega), if_neg hz2]
        simp [upd, hz]
  · rw [a3 z, ju_ne h4, ju_ne h3, ju_eq, ju_ne (Ne.symm h5)]
    by_cases hz : z = x
    · subst hz
      rw [if_neg (by omega), if_pos ⟨Nat.le_refl _, hx⟩]
      simp [upd]
    · by_cases hz2 : x ≤ z ∧ z < n
      · rw [if_pos (by omega), if_pos hz2]
      · rw [if_neg (by omega), if_neg hz2]
        simp [upd, hz]
theorem lp_img41 (hg : Gr r len) : ∀ (m x : Nat) (i : jI), x + m = 5 → (∀ i0 i' i'', cpr2 i i0 61 43 62 44 x 5 → cpr i0 i' 63 40 0 10 → cpr i' i'' 64 45 0 6 → Q (i'' 37 8) i'' j) → J_X12_image_L41 len r Q (m + 1) i j 37 (nI x) := by
  intro m
  induction m with
  | zero =>
    intro x i hx h
    have hx6 : x = 5 := by omega
    subst hx6
    rw [J_X12_image_L41]
    exact ⟨fun _ => ⟨11, lp_img78 hg 10 0 i rfl (fun i' i'' hc hd => h i i' i'' cpr2_end hc hd)⟩, fun hh => absurd (by decide) hh⟩
  | succ m ih =>
    intro x i hx h
    have ec : (nI x).toNatClampNeg = x := nI_clamp (by omega)
    have hv : vp_in (nI x) 5 := vp_in_nI (by omega) (by decide)
    rw [J_X12_image_L41]
    refine ⟨fun hh => absurd hh (nI_ge (b := 5) (by omega) (by decide)), fun _ => ⟨_, hg.1 _ (by decide) _ (by decide) _ rfl, _, hg.1 _ (by decide) _ (by decide) _ rfl, by rw [hg.2 _ (by decide)]; exact hv, by rw [hg.2 _ (by decide)]; exact hv, fun i1 e1 => ⟨_, hg.1 _ (by decide) _ (by decide) _ rfl, _, hg.1 _ (by decide) _ (by decide) _ rfl, by rw [hg.2 _ (by decide)]; exact hv, by rw [hg.2 _ (by decide)]; exact hv, fun i2 e2 v e => ?_⟩⟩⟩
    rw [nI_1] at e
    subst e
    rw [ec] at e1 e2
    subst e1
    subst e2
    exact ih (x + 1) _ (by omega) (fun i0 i' i'' hb hc hd => h i0 i' i'' (cpr2_step (by decide) (by decide) (by decide) (by decide) (by decide) (by omega) hb) hc hd)
/-- the class keeps its walkers -/
def kwr (i i' : jI) (x n : Nat) : Prop := (∀ c, c ≠ 12 → c ≠ 13 → i' c = i c) ∧ (∀ z, i' 12 z = if x ≤ z ∧ z < n then i (32 + z) 1 else i 12 z) ∧ ∀ z, i' 13 z = if x ≤ z ∧ z < n then i (32 + z) 2 else i 13 z
theorem lp_keepW {Qv : jI → jL → Prop} (hg : Gr r len) {n : Nat} (hn : n ≤ 5) : ∀ (m x : Nat) (i : jI), x + m = n → (∀ i', kwr i i' x n → Qv i' j) → J_X4_keepWalkers_L7 len r Qv (m + 1) i j 11 9 (nI n) (nI x) := by
  intro m
  induction m with
  | zero =>
    intro x i hx h
    have hx6 : x = n := by omega
    subst hx6
    rw [J_X4_keepWalkers_L7]
    exact ⟨fun _ => h i ⟨fun _ _ _ => rfl, fun z => by rw [if_neg (by omega)], fun z => by rw [if_neg (by omega)]⟩, fun hh => absurd (nI_le (Nat.le_refl _) (by omega)) hh⟩
  | succ m ih =>
    intro x i hx h
    have ec : (nI x).toNatClampNeg = x := nI_clamp (by omega)
    have hv : vp_in (nI x) 5 := vp_in_nI (by omega) (by decide)
    have hr9 : r 9 (nI x).toNatClampNeg = some (32 + x) := by rw [ec]; exact hg.1 9 (by decide) x (by omega) _ (RR9 x (by omega))
    rw [J_X4_keepWalkers_L7]
    refine ⟨fun hh => absurd hh (nI_ge (by omega) (by omega)), fun _ => ⟨_, hg.1 _ (by decide) _ (by decide) _ rfl, by rw [hg.2 _ (by decide)]; exact hv, 32 + x, hr9, by rw [hg.2 _ (by decide)]; exact hv, fun i1 e1 => ⟨_, hg.1 _ (by decide) _ (by decide) _ rfl, by rw [hg.2 _ (by decide)]; exact hv, 32 + x, hr9, by rw [hg.2 _ (by decide)]; exact hv, fun i2 e2 v e => ?_⟩⟩⟩
    rw [nI_1] at e
    subst e
    rw [ec] at e1 e2
    refine ih (x + 1) i2 (by omega) (fun i' hc => h i' ?_)
    obtain ⟨a1, a2, a3⟩ := hc
    have b : ∀ c, c ≠ 12 → c ≠ 13 → i2 c = i c := fun c h1 h2 => by rw [e2, ju_ne h2, e1, ju_ne h1]
    refine ⟨fun c h1 h2 => by rw [a1 c h1 h2, b c h1 h2], fun z => ?_, fun z => ?_⟩
    · rw [a2 z]
      by_cases hz : z = x
      · subst hz
        rw [if_neg (by omega), if_pos ⟨Nat.le_refl _, by omega⟩, e2, ju_ne (by decide), e1, ju_eq]
        simp [upd]
      · by_cases hz2 : x ≤ z ∧ z < n
        · rw [if_pos (by omega), if_pos hz2, b (32 + z) (by omega) (by omega)]
        · rw [if_neg (by omega), if_neg hz2, e2, ju_ne (by decide), e1, ju_eq]
          simp [upd, hz]
    · rw [a3 z]
      by_cases hz : z = x
      · subst hz
        rw [if_neg (by omega), if_pos ⟨Nat.le_refl _, by omega⟩, e2, ju_eq, e1, ju_ne (by omega)]
        simp only [upd, if_true]
        rw [ju_ne (by omega)]
      · by_cases hz2 : x ≤ z ∧ z < n
        · rw [if_pos (by omega), if_pos hz2, b (32 + z) (by omega) (by omega)]
        · rw [if_neg (by omega), if_neg hz2, e2, ju_eq, e1, ju_ne (by decide)]
          simp [upd, hz]
end Image
