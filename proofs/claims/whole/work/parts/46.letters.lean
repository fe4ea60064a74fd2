/-! letters -/
/-- how many letters a long holds, m bytes before its end, at byte x, with y letters so far -/
def lr (n : Nat) : Nat → Nat → Nat → Option Nat
  | 0, _, y => some y
  | m + 1, x, y => if 126 < cb n x then none else if cb n x = 0 then lr n m (x + 1) y else if y < x then none else lr n m (x + 1) (y + 1)
theorem lr_some {n : Nat} : ∀ (m x y c : Nat), y ≤ x → (∀ z, z < y → 0 < cb n z ∧ cb n z < 127) → lr n m x y = some c → c ≤ x + m ∧ ∀ z, z < c → 0 < cb n z ∧ cb n z < 127 := by
  intro m
  induction m with
  | zero =>
    intro x y c hy hz h
    rw [lr] at h
    cases h
    exact ⟨hy, hz⟩
  | succ m ih =>
    intro x y c hy hz h
    rw [lr] at h
    split at h
    · cases h
    · split at h
      · obtain ⟨h1, h2⟩ := ih (x + 1) y c (by omega) hz h
        exact ⟨by omega, h2⟩
      · split at h
        · cases h
        · obtain ⟨h1, h2⟩ := ih (x + 1) (y + 1) c (by omega) (fun z hz' => by
            by_cases e : z = y
            · subst e
              have : z = x := by omega
              subst this
              omega
            · exact hz z (by omega)) h
          exact ⟨by omega, h2⟩
section Letters
variable {len : Nat → Nat} {r : jR} {j : jL} {k n : Nat}
theorem lp_lettersIn {Q : Int32 → jI → jL → Prop} {i : jI} (hn : n < 2 ^ 64) : ∀ (m x y : Nat), x + m = 8 → y ≤ x → Q (match lr n m x y with | none => -1 | some c => nI c) i j → J_X5_lettersIn_L4 len r Q (m + 1) i j (lN n) (nI y) (nI x) := by
  intro m
  induction m with
  | zero =>
    intro x y hx hy h
    have h8 : x = 8 := by omega
    subst h8
    rw [J_X5_lettersIn_L4]
    rw [lr] at h
    exact ⟨fun _ => h, fun hh => absurd (by decide) hh⟩
  | succ m ih =>
    intro x y hx hy h
    rw [J_X5_lettersIn_L4]
    refine ⟨fun hh => absurd hh (nI_ge (b := 8) (by omega) (by decide)), fun _ => ?_⟩
    rw [J_X5_codeIn, byteC hn (by omega)]
    have hc := cb_lt n x
    rw [lr] at h
    by_cases h1 : 126 < cb n x
    · rw [if_pos h1] at h
      exact ⟨fun _ => h, fun hh => absurd (nI_lt (a := 126) h1 (by omega)) hh⟩
    · rw [if_neg h1] at h
      refine ⟨fun hh => absurd hh (nI_nlt (a := 126) (by omega) (by decide)), fun _ => ?_⟩
      by_cases h2 : cb n x = 0
      · rw [if_pos h2] at h
        rw [h2]
        refine ⟨fun _ => ?_, fun hh => absurd (by decide) hh⟩
        rw [J_X5_lettersIn_L36]
        refine ⟨fun _ => ?_, fun hh => absurd (by decide) hh⟩
        rw [J_X5_lettersIn_L44]
        intro v e
        rw [nI_1] at e
        subst e
        exact ih (x + 1) y (by omega) (by omega) h
      · rw [if_neg h2] at h
        have h0 : ¬ nI (cb n x) = 0 := nI_ne0 (by omega) (by omega)
        refine ⟨fun hh => absurd hh h0, fun _ => ?_⟩
        by_cases h3 : y < x
        · rw [if_pos h3] at h
          exact ⟨fun hh => absurd hh (nI_ge h3 (by omega)), fun _ => h⟩
        · rw [if_neg h3] at h
          refine ⟨fun _ => ?_, fun hh => absurd (nI_le (by omega) (by omega)) hh⟩
          rw [J_X5_lettersIn_L36]
          refine ⟨fun hh => absurd hh h0, fun _ v e => ?_⟩
          rw [nI_1] at e
          subst e
          rw [J_X5_lettersIn_L44]
          intro v e
          rw [nI_1] at e
          subst e
          exact ih (x + 1) (y + 1) (by omega) (by omega) h
theorem lp_lettersM {Q : Int32 → jI → jL → Prop} {i : jI} (hn : n < 2 ^ 64) : ∀ (m x y : Nat), x + m = 8 → y ≤ x → (match lr n m x y with | none => Q (-102) i j | some c => ((((i 37 15) + nI c) ≤ (50 : Int32)) → (∃ g0, J_X12_letters_L102 len r Q g0 i j 37 (lN n) (nI c) (0 : Int32))) ∧ ((¬ ((i 37 15) + nI c) ≤ (50 : Int32)) → (Q (-104 : Int32) i j))) → J_X12_letters_L8 len r Q (m + 1) i j 37 (lN n) (nI y) (if y < x then 1 else 0) (nI x) := by
  intro m
  induction m with
  | zero =>
    intro x y hx hy h
    have h8 : x = 8 := by omega
    subst h8
    rw [J_X12_letters_L8]
    rw [lr] at h
    exact ⟨fun _ => h, fun hh => absurd (by decide) hh⟩
  | succ m ih =>
    intro x y hx hy h
    rw [J_X12_letters_L8]
    refine ⟨fun hh => absurd hh (nI_ge (b := 8) (by omega) (by decide)), fun _ v e => ?_⟩
    rw [byteM (by omega)] at e
    subst e
    have hc := cb_lt n x
    rw [lr] at h
    by_cases h1 : 126 < cb n x
    · rw [if_pos h1] at h
      exact ⟨fun _ => h, fun hh => absurd (nI_lt (a := 126) h1 (by omega)) hh⟩
    · rw [if_neg h1] at h
      refine ⟨fun hh => absurd hh (nI_nlt (a := 126) (by omega) (by decide)), fun _ => ?_⟩
      by_cases h2 : cb n x = 0
      · rw [if_pos h2] at h
        rw [h2]
        have hnext := ih (x + 1) y (by omega) (by omega) h
        rw [if_pos (by omega)] at hnext
        have k49 : ∀ x4 : Int32, J_X12_letters_L49 len r Q (J_X12_letters_L8 len r Q (m + 1)) i j 37 (lN n) (nI y) x4 (nI x) (nI 0) := by
          intro x4
          have k59 : J_X12_letters_L59 len r Q (J_X12_letters_L8 len r Q (m + 1)) i j 37 (lN n) (nI y) (nI x) (nI 0) := by
            rw [J_X12_letters_L59, J_X12_letters_L64]
            refine bn_f (by decide) ?_
            rw [J_X12_letters_L77]
            intro v1 e1 v2 e2
            rw [show nI y + (0 : Int32) = nI y from nI_add y 0] at e1
            rw [nI_1] at e2
            subst e1
            subst e2
            exact hnext
          rw [J_X12_letters_L49]
          exact ⟨fun _ => k59, fun _ => bn_f (by decide) k59⟩
        by_cases h3 : y < x
        · rw [if_pos h3]
          exact ⟨fun hh => absurd hh (by decide), fun _ => ⟨fun _ => k49 _, fun hh => absurd (by decide) hh⟩⟩
        · rw [if_neg h3]
          exact ⟨fun _ => k49 _, fun hh => absurd rfl hh⟩
      · rw [if_neg h2] at h
        have h0 : ¬ nI (cb n x) = 0 := nI_ne0 (by omega) (by omega)
        by_cases h3 : y < x
        · rw [if_pos h3] at h
          rw [if_pos h3]
          exact ⟨fun hh => absurd hh (by decide), fun _ => ⟨fun hh => absurd hh h0, fun _ => h⟩⟩
        · rw [if_neg h3] at h
          have hnext := ih (x + 1) (y + 1) (by omega) (by omega) h
          rw [if_neg (by omega)] at hnext
          rw [if_neg h3]
          refine ⟨fun _ => ?_, fun hh => absurd rfl hh⟩
          rw [J_X12_letters_L49]
          refine ⟨fun hh => absurd rfl hh, fun _ => bn_t h0 ?_⟩
          rw [J_X12_letters_L64]
          refine bn_t h0 ?_
          rw [J_X12_letters_L77]
          intro v1 e1 v2 e2
          rw [nI_1] at e1 e2
          subst e1
          subst e2
          exact hnext
/-- letters are laid from place p on -/
def lay (n : Nat) (f f' : Nat → Int32) (p x c : Nat) : Prop := ∀ z, f' z = if p + x ≤ z ∧ z < p + c then nI (cb n (z - p)) else f z
theorem lay_end {f : Nat → Int32} {p c : Nat} : lay n f f p c c := fun z => by rw [if_neg (by omega)]
theorem lay_step {f f' : Nat → Int32} {p x c : Nat} (hx : x < c) (h : lay n (upd f (p + x) (nI (cb n x))) f' p (x + 1) c) : lay n f f' p x c := by
  intro z
  rw [h z]
  by_cases hz : z = p + x
  · subst hz
    rw [if_neg (by omega), if_pos (by omega)]
    simp [upd]
  · by_cases hz2 : p + x ≤ z ∧ z < p + c
    · rw [if_pos (by omega), if_pos hz2]
    · rw [if_neg (by omega), if_neg hz2]
      simp [upd, hz]
theorem lp_append {Qv : jI → jL → Prop} (hg : Gr r len) (hn : n < 2 ^ 64) {p c : Nat} (hc : c ≤ 8) (hp : p + c ≤ 50) : ∀ (m x : Nat) (i : jI), x + m = c → i 1 1 = nI (p + x) → (∀ i', (∀ q, q ≠ 1 → q ≠ 2 → i' q = i q) → i' 1 1 = nI (p + c) → lay n (i 2) (i' 2) p x c → Qv i' j) → J_X5_append_L3 len r Qv (m + 1) i j 1 (lN n) (nI c) (nI x) := by
  intro m
  induction m with
  | zero =>
    intro x i hx e h
    have h8 : x = c := by omega
    subst h8
    rw [J_X5_append_L3]
    exact ⟨fun _ => h i (fun _ _ _ => rfl) e lay_end, fun hh => absurd (nI_le (Nat.le_refl _) (by omega)) hh⟩
  | succ m ih =>
    intro x i hx e h
    have ec : (nI (p + x)).toNatClampNeg = p + x := nI_clamp (by omega)
    have hv : vp_in (nI (p + x)) 50 := vp_in_nI (by omega) (by decide)
    rw [J_X5_append_L3]
    refine ⟨fun hh => absurd hh (nI_ge (by omega) (by omega)), fun _ => ?_⟩
    rw [e]
    refine ⟨fun hh => absurd hh (nI_ge (b := 50) (by omega) (by decide)), fun _ => ⟨_, hg.1 _ (by decide) _ (by decide) _ rfl, ?_⟩⟩
    rw [J_X5_codeIn, byteC hn (by omega)]
    refine ⟨by rw [hg.2 _ (by decide)]; exact hv, fun i1 e1 i2 e2 v ev => ?_⟩
    rw [nI_1] at ev
    subst ev
    rw [ec] at e1
    have z1 : i1 1 1 = nI (p + x) := by rw [e1, ju_ne (by decide)]; exact e
    rw [z1, nI_1] at e2
    have f2 : i2 2 = upd (i 2) (p + x) (nI (cb n x)) := by rw [e2, ju_ne (by decide), e1, ju_eq]
    refine ih (x + 1) i2 (by omega) (by rw [e2, ju_eq]; simp [upd]; rfl) (fun i' a1 a2 a3 => h i' (fun q q1 q2 => by rw [a1 q q1 q2, e2, ju_ne q1, e1, ju_ne q2]) a2 ?_)
    rw [f2] at a3
    exact lay_step (by omega) a3
theorem lp_layM {Q : Int32 → jI → jL → Prop} (hg : Gr r len) (hn : n < 2 ^ 64) {p c : Nat} (hc : c ≤ 8) (hp : p + c ≤ 50) (hl : ∀ z, z < c → 0 < cb n z ∧ cb n z < 127) : ∀ (m x : Nat) (i : jI), x + m = c → i 37 15 = nI p → (∀ i', (∀ q, q ≠ 37 → q ≠ 46 → i' q = i q) → i' 37 = upd (i 37) 15 (nI (p + c)) → lay n (i 46) (i' 46) p x c → Q (nI (p + c)) i' j) → J_X12_letters_L102 len r Q (m + 1) i j 37 (lN n) (nI c) (nI x) := by
  intro m
  induction m with
  | zero =>
    intro x i hx e h
    have h8 : x = c := by omega
    subst h8
    rw [J_X12_letters_L102]
    refine ⟨fun _ i1 e1 => ?_, fun hh => absurd (nI_le (Nat.le_refl _) (by omega)) hh⟩
    rw [e, nI_add] at e1
    have z : i1 37 15 = nI (p + x) := by rw [e1, ju_eq]; simp [upd]
    rw [z]
    exact h i1 (fun q q1 _ => by rw [e1, ju_ne q1]) (by rw [e1, ju_eq]) (by rw [e1, ju_ne (by decide)]; exact lay_end)
  | succ m ih =>
    intro x i hx e h
    have ec : (nI (p + x)).toNatClampNeg = p + x := nI_clamp (by omega)
    have hv : vp_in (nI (p + x)) 50 := vp_in_nI (by omega) (by decide)
    rw [J_X12_letters_L102]
    refine ⟨fun hh => absurd hh (nI_ge (by omega) (by omega)), fun _ => ⟨_, hg.1 _ (by decide) _ (by decide) _ rfl, ?_⟩⟩
    rw [e, nI_add, byteM2 (by omega) (by have := hl x (by omega); omega)]
    refine ⟨by rw [hg.2 _ (by decide)]; exact hv, fun i1 e1 v ev => ?_⟩
    rw [nI_1] at ev
    subst ev
    rw [ec] at e1
    refine ih (x + 1) i1 (by omega) (by rw [e1, ju_ne (by decide)]; exact e) (fun i' a1 a2 a3 => h i' (fun q q1 q2 => by rw [a1 q q1 q2, e1, ju_ne q2]) (by rw [a2, e1, ju_ne (by decide)]) ?_)
    rw [e1, ju_eq] at a3
    exact lay_step (by omega) a3
end Letters
section Letters2
variable {len : Nat → Nat} {r : jR} {i : jI} {j : jL} {k : Nat}
set_option maxHeartbeats 2000000 in
theorem ok_0 (hg : Gr r len) (h : Rp k i) (y : Int64) : J_X11_letters len r (fun q i1 j1 => J_X12_letters len r (fun q2 i2 j2 => q = q2 ∧ Rp (k + 5) i2) i1 j1 37 y) i j 0 y := by
  have hR := h.up (k2 := k + 5) (by omega)
  obtain ⟨ns, ng, nt, nw, np, dn, pl, A, B, G, P, fr, h1, h2, h3, h4, h5, h6, h7, h8⟩ := h
  obtain ⟨p1, p2, p3, p4⟩ := id h7
  obtain ⟨n, hn, rfl⟩ := wb_of y
  rw [J_X11_letters, J_X5_lettersIn]
  refine ⟨9, lp_lettersIn hn 8 0 0 rfl (Nat.le_refl _) ?_⟩
  cases hlr : lr n 8 0 0 with
  | none =>
    refine bn_f rfl ?_
    rw [J_X12_letters]
    refine ⟨9, lp_lettersM hn 8 0 0 rfl (Nat.le_refl _) ?_⟩
    rw [hlr]
    exact ⟨rfl, hR⟩
  | some c =>
    obtain ⟨hc8, hcb⟩ := lr_some 8 0 0 c (Nat.le_refl _) (fun z hz => absurd hz (Nat.not_lt_zero z)) hlr
    have k1 : ∀ n : Nat, n < 9 → ¬ nI n = (-1 : Int32) := by decide +kernel
    refine bn_t (k1 c (by omega)) ⟨_, hg.1 _ (by decide) _ (by decide) _ rfl, ?_⟩
    rw [p2, nI_add]
    by_cases h50 : pl + c ≤ 50
    · refine ⟨fun _ => ⟨_, hg.1 _ (by decide) _ (by decide) _ rfl, ?_⟩, fun hh => absurd (nI_le (b := 50) h50 (by decide)) hh⟩
      rw [J_X5_append]
      refine ⟨c + 1, lp_append hg hn (by omega) h50 c 0 i (by omega) p2 (fun i1 a1 a2 a3 => ⟨_, hg.1 _ (by decide) _ (by decide) _ rfl, ?_⟩)⟩
      rw [a2, J_X12_letters]
      refine ⟨9, lp_lettersM hn 8 0 0 rfl (Nat.le_refl _) ?_⟩
      rw [hlr]
      have z1 : i1 37 15 = nI pl := by rw [a1 37 (by decide) (by decide)]; exact p1
      dsimp only
      rw [z1, nI_add]
      refine ⟨fun _ => ⟨c + 1, lp_layM hg hn (by omega) h50 hcb c 0 i1 (by omega) z1 (fun i2 b1 b2 b3 => ⟨rfl, ?_⟩)⟩, fun hh => absurd (nI_le (b := 50) h50 (by decide)) hh⟩
      have qo : ∀ q, q ≠ 1 → q ≠ 2 → q ≠ 37 → q ≠ 46 → i2 q = i q := fun q c1 c2 c3 c4 => by rw [b1 q c3 c4, a1 q c1 c2]
      have f37 : i2 37 = upd (i 37) 15 (nI (pl + c)) := by rw [b2, a1 37 (by decide) (by decide)]
      have s37 : ∀ f, f ≠ 15 → i2 37 f = i 37 f := fun f hf => by rw [f37]; simp [upd, hf]
      have z0 := qo 0 (by decide) (by decide) (by decide) (by decide)
      have f2 : i2 2 = i1 2 := b1 2 (by decide) (by decide)
      have f46 : i1 46 = i 46 := a1 46 (by decide) (by decide)
      rw [f46] at b3
      refine ⟨ns, ng, nt, nw, np, dn, pl + c, A, B, G, P, fr, h1.cong ⟨fun a ha => qo a (by omega) (by omega) (by omega) (by omega), s37 0 (by decide), s37 5 (by decide), s37 6 (by decide)⟩, (h2.cong ⟨s37 7 (by decide), by rw [z0]⟩).up (by omega), h3, h4.cong ⟨fun a ha => qo a (by omega) (by omega) (by omega) (by omega), s37 8 (by decide), by rw [z0]⟩, h5.cong ⟨qo 45 (by decide) (by decide) (by decide) (by decide), qo 10 (by decide) (by decide) (by decide) (by decide), s37 12 (by decide), by rw [z0]⟩, h6.cong ⟨s37 14 (by decide), by rw [z0]⟩, ⟨by rw [f37]; simp [upd], by rw [b1 1 (by decide) (by decide)]; exact a2, h50, fun q hq => ?_⟩, h8.cong ⟨fun a ha => qo a (by omega) (by omega) (by omega) (by omega), s37 42 (by decide), s37 43 (by decide), s37 44 (by decide), s37 45 (by decide)⟩⟩
      by_cases hqp : q < pl
      · obtain ⟨v, v1, v2, v3, v4⟩ := p4 q hqp
        exact ⟨v, v1, v2, by rw [b3 q, if_neg (by omega)]; exact v3, by rw [f2, a3 q, if_neg (by omega)]; exact v4⟩
      · have := hcb (q - pl) (by omega)
        exact ⟨cb n (q - pl), this.1, this.2, by rw [b3 q, if_pos (by omega)], by rw [f2, a3 q, if_pos (by omega)]⟩
    · refine ⟨fun hh => absurd hh (nI_ge (a := 50) (by omega) (by omega)), fun _ => ?_⟩
      rw [J_X12_letters]
      refine ⟨9, lp_lettersM hn 8 0 0 rfl (Nat.le_refl _) ?_⟩
      rw [hlr]
      dsimp only
      rw [p1, nI_add]
      exact ⟨fun hh => absurd hh (nI_ge (a := 50) (by omega) (by omega)), fun _ => ⟨rfl, hR⟩⟩
end Letters2
