/-! streets at a place, and which of them -/
def cntF (f : Nat → Bool) : Nat → Nat → Nat
  | 0, _ => 0
  | m + 1, x => (if f x = true then 1 else 0) + cntF f m (x + 1)
def sel (f : Nat → Bool) : Nat → Nat → Nat → Nat
  | 0, x, _ => x
  | m + 1, x, l => if f x = true then (if l = 0 then x else sel f m (x + 1) (l - 1)) else sel f m (x + 1) l
theorem cntF_le (f : Nat → Bool) : ∀ m x, cntF f m x ≤ m := by
  intro m
  induction m with
  | zero => intro x; exact Nat.le_refl _
  | succ m ih =>
    intro x
    rw [cntF]
    have := ih (x + 1)
    split <;> omega
theorem sel_lt (f : Nat → Bool) : ∀ m x l, l < cntF f m x → sel f m x l < x + m := by
  intro m
  induction m with
  | zero => intro x l h; exact absurd h (Nat.not_lt_zero l)
  | succ m ih =>
    intro x l h
    rw [cntF] at h
    rw [sel]
    by_cases hf : f x = true
    · rw [if_pos hf] at h ⊢
      by_cases hl : l = 0
      · rw [if_pos hl]; omega
      · rw [if_neg hl]
        have := ih (x + 1) (l - 1) (by omega)
        omega
    · rw [if_neg hf] at h ⊢
      have := ih (x + 1) l (by omega)
      omega
def atF (A B : Nat → Nat) (p : Nat) : Nat → Bool := fun s => decide (A s = p ∨ B s = p)
theorem atF_t {A B : Nat → Nat} {p s : Nat} : atF A B p s = true ↔ (A s = p ∨ B s = p) := decide_eq_true_iff
section WalkA
variable {len : Nat → Nat} {r : jR} {Q : Int32 → jI → jL → Prop} {i : jI} {j : jL} {st p ns : Nat} {A B G P : Nat → Nat} {fr : Bool}
theorem lp_streetsAt (hg : Gr r len) (tc : TC i ns A B G P fr) (hp : p < 7) : ∀ (m x y : Nat), x + m = ns → y ≤ x → Q (nI (y + cntF (atF A B p) m x)) i j → J_X8_streetsAt_L4 len r Q (m + 1) i j 3 (nI p) (nI y) (nI x) := by
  have hn := tc.2.1
  have e := tc.1
  intro m
  induction m with
  | zero =>
    intro x y hx hy h
    have hx' : x = ns := by omega
    subst hx'
    rw [J_X8_streetsAt_L4]
    dsimp only
    rw [e]
    exact ⟨fun _ => h, fun hh => absurd (nI_le (Nat.le_refl _) (by omega)) hh⟩
  | succ m ih =>
    intro x y hx hy h
    rw [J_X8_streetsAt_L4]
    dsimp only
    rw [e]
    refine ⟨fun hh => absurd hh (nI_ge (by omega) (by omega)), fun _ => sp_isAtC hg tc hp (by omega) ?_⟩
    rw [cntF] at h
    by_cases ha : A x = p ∨ B x = p
    · rw [if_pos (atF_t.mpr ha)] at h
      rw [if_pos ha]
      refine ⟨fun hh => absurd hh (by decide), fun _ v e1 => ?_⟩
      rw [nI_1] at e1
      subst e1
      rw [J_X8_streetsAt_L24]
      intro v e1
      rw [nI_1] at e1
      subst e1
      exact ih (x + 1) (y + 1) (by omega) (by omega) (by rw [show y + 1 + cntF (atF A B p) m (x + 1) = y + (1 + cntF (atF A B p) m (x + 1)) by omega]; exact h)
    · rw [if_neg (fun z => ha (atF_t.mp z)), Nat.zero_add] at h
      rw [if_neg ha]
      refine ⟨fun _ => ?_, fun hh => absurd rfl hh⟩
      rw [J_X8_streetsAt_L24]
      intro v e1
      rw [nI_1] at e1
      subst e1
      exact ih (x + 1) y (by omega) (by omega) h
theorem lp_streetAt (hg : Gr r len) (tc : TC i ns A B G P fr) (hp : p < 7) : ∀ (m x l : Nat), x + m = ns → l < cntF (atF A B p) m x → Q (nI (sel (atF A B p) m x l)) i j → J_X8_streetAt_L5 len r Q (m + 1) i j 3 (nI p) (nI l) (nI x) := by
  have hn := tc.2.1
  have e := tc.1
  intro m
  induction m with
  | zero => intro x l hx hl h; exact absurd hl (Nat.not_lt_zero l)
  | succ m ih =>
    intro x l hx hl h
    have hcl := cntF_le (atF A B p) m (x + 1)
    rw [J_X8_streetAt_L5]
    dsimp only
    rw [e]
    refine ⟨fun hh => absurd hh (nI_ge (by omega) (by omega)), fun _ => sp_isAtC hg tc hp (by omega) ?_⟩
    rw [cntF] at hl
    rw [sel] at h
    by_cases ha : A x = p ∨ B x = p
    · rw [if_pos (atF_t.mpr ha)] at h hl
      rw [if_pos ha]
      refine ⟨fun hh => absurd hh (by decide), fun _ => ?_⟩
      by_cases h0 : l = 0
      · rw [if_pos h0] at h
        subst h0
        exact ⟨fun hh => absurd (by decide) hh, fun _ => h⟩
      · rw [if_neg h0] at h
        refine ⟨fun _ v e1 => ?_, fun hh => absurd hh (nI_ne0 (by omega) (by omega))⟩
        rw [show l = (l - 1) + 1 by omega, pk_m1] at e1
        subst e1
        rw [J_X8_streetAt_L34]
        intro v e1
        rw [nI_1] at e1
        subst e1
        exact ih (x + 1) (l - 1) (by omega) (by omega) h
    · rw [if_neg (fun z => ha (atF_t.mp z))] at h hl
      rw [if_neg ha]
      refine ⟨fun _ => ?_, fun hh => absurd rfl hh⟩
      rw [J_X8_streetAt_L34]
      intro v e1
      rw [nI_1] at e1
      subst e1
      exact ih (x + 1) l (by omega) (by omega) h
theorem lp_draw50 (hg : Gr r len) (tm : TM i ns A B G P fr) (hst : st < 378) : ∀ (m x l : Nat), x + m = ns → l < cntF (atF A B (st % 7)) m x → Q (nI (sel (atF A B (st % 7)) m x l)) i j → J_X12_drawStreet_L50 len r Q m i j 37 (nI st) (nI l) (nI x) := by
  have hn := tm.2.1
  intro m
  induction m with
  | zero => intro x l hx hl h; exact absurd hl (Nat.not_lt_zero l)
  | succ m ih =>
    intro x l hx hl h
    have hcl := cntF_le (atF A B (st % 7)) m (x + 1)
    rw [cntF] at hl
    rw [sel] at h
    rw [J_X12_drawStreet_L50]
    refine sp_isAtM hg tm hst (by omega) ?_
    by_cases ha : A x = st % 7 ∨ B x = st % 7
    · rw [if_pos (atF_t.mpr ha)] at h hl
      rw [if_pos ha]
      refine ⟨fun hh => absurd hh (by decide), fun _ => ?_⟩
      by_cases h0 : l = 0
      · rw [if_pos h0] at h
        subst h0
        exact ⟨fun _ => h, fun hh => absurd (by decide) hh⟩
      · rw [if_neg h0] at h
        refine ⟨fun hh => absurd hh (nI_nle (by omega) (by omega)), fun _ => ?_⟩
        rw [J_X12_drawStreet_L64]
        refine sp_isAtM hg tm hst (by omega) ?_
        rw [if_pos ha]
        refine ⟨fun hh => absurd hh (by decide), fun _ => ?_⟩
        rw [J_X12_drawStreet_L80]
        intro v e1 v2 e2
        rw [show l = (l - 1) + 1 by omega, nI_pred] at e1
        rw [nI_1] at e2
        subst e1
        subst e2
        exact ih (x + 1) (l - 1) (by omega) (by omega) h
    · rw [if_neg (fun z => ha (atF_t.mp z))] at h hl
      rw [if_neg ha]
      refine ⟨fun _ => ?_, fun hh => absurd rfl hh⟩
      rw [J_X12_drawStreet_L64]
      refine sp_isAtM hg tm hst (by omega) ?_
      rw [if_neg ha]
      refine ⟨fun _ => ?_, fun hh => absurd rfl hh⟩
      rw [J_X12_drawStreet_L80]
      intro v e1 v2 e2
      rw [show nI l - (0 : Int32) = nI l from by rw [Int32.sub_zero]] at e1
      rw [nI_1] at e2
      subst e1
      subst e2
      exact ih (x + 1) l (by omega) (by omega) h
theorem lp_draw4 (hg : Gr r len) (tm : TM i ns A B G P fr) (hst : st < 378) : ∀ (m x y : Nat), x + m = ns → y ≤ x → (((¬ nI (y + cntF (atF A B (st % 7)) m x) = 0) → (J_X12_draw len r (fun q43 i43 j43 => ∃ g0, J_X12_drawStreet_L50 len r Q g0 i43 j43 37 (nI st) q43 0) i j 37 (nI (y + cntF (atF A B (st % 7)) m x)))) ∧ ((nI (y + cntF (atF A B (st % 7)) m x) = 0) → (Q (-1 : Int32) i j))) → J_X12_drawStreet_L4 len r Q (m + 1) i j 37 (nI st) (nI y) (nI x) := by
  have hn := tm.2.1
  have e := tm.1
  intro m
  induction m with
  | zero =>
    intro x y hx hy h
    have hx' : x = ns := by omega
    subst hx'
    rw [J_X12_drawStreet_L4]
    dsimp only
    rw [e]
    exact ⟨fun _ => h, fun hh => absurd (nI_le (Nat.le_refl _) (by omega)) hh⟩
  | succ m ih =>
    intro x y hx hy h
    rw [J_X12_drawStreet_L4]
    dsimp only
    rw [e]
    refine ⟨fun hh => absurd hh (nI_ge (by omega) (by omega)), fun _ => sp_isAtM hg tm hst (by omega) ?_⟩
    rw [cntF] at h
    by_cases ha : A x = st % 7 ∨ B x = st % 7
    · rw [if_pos (atF_t.mpr ha)] at h
      rw [if_pos ha]
      refine ⟨fun hh => absurd hh (by decide), fun _ => ?_⟩
      rw [J_X12_drawStreet_L27]
      intro v e1 v2 e2
      rw [nI_1] at e1 e2
      subst e1
      subst e2
      exact ih (x + 1) (y + 1) (by omega) (by omega) (by rw [show y + 1 + cntF (atF A B (st % 7)) m (x + 1) = y + (1 + cntF (atF A B (st % 7)) m (x + 1)) by omega]; exact h)
    · rw [if_neg (fun z => ha (atF_t.mp z)), Nat.zero_add] at h
      rw [if_neg ha]
      refine ⟨fun _ => ?_, fun hh => absurd rfl hh⟩
      rw [J_X12_drawStreet_L27]
      intro v e1 v2 e2
      rw [show nI y + (0 : Int32) = nI y from nI_add y 0] at e1
      rw [nI_1] at e2
      subst e1
      subst e2
      exact ih (x + 1) y (by omega) (by omega) h
end WalkA
/-! the seed -/
def nxs (d : Nat) : Nat := (1103515245 * d + 12345) % 2 ^ 31
theorem nxs_lt (d : Nat) : nxs d < 2 ^ 31 := Nat.mod_lt _ (by decide)
theorem seedL {d : Nat} (hd : d < 2 ^ 31) : (((1103515245 : Int64) * lN d) + (12345 : Int64)) &&& (2147483647 : Int64) = lN (nxs d) := by
  rw [show (1103515245 : Int64) = lN 1103515245 from by decide, lN_mul, show (12345 : Int64) = lN 12345 from by decide, lN_add, show (2147483647 : Int64) = lN (2 ^ 31 - 1) from by decide, wb_mask (by omega) (by decide)]
  rfl
theorem seedC {d : Nat} (hd : d < 2 ^ 31) : ((((1103515245 : Int64) * (nI d).toInt64) + (12345 : Int64)) &&& (2147483647 : Int64)).toInt32 = nI (nxs d) := by
  rw [nI_l hd, seedL hd, lN_i]
theorem idxC {d c : Nat} (hd : d < 2 ^ 31) (h0 : 0 < c) (hc : c < 2 ^ 31) : (nI d >>> ((16 : Int32) &&& 31)) - (nI d >>> ((16 : Int32) &&& 31)) / nI c * nI c = nI (d / 65536 % c) := by
  rw [pk_shrN hd ((16 : Int32) &&& 31) 16 (by decide), pk_rem (by omega) h0 hc]
theorem idxM {d c : Nat} (hd : d < 2 ^ 31) (h0 : 0 < c) (hc : c < 2 ^ 31) : ((lN d / (65536 : Int64)) - (lN d / (65536 : Int64)) / (nI c).toInt64 * (nI c).toInt64).toInt32 = nI (d / 65536 % c) := by
  rw [nI_l hc, show (65536 : Int64) = lN 65536 from by decide, pk_lDiv (by omega) (by decide) (by decide), pk_lRem (by omega) h0 (by omega), lN_i]
