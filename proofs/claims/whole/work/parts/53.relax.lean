/-! labels of cost: what an offer changes, and what holds on the way -/
def dD (D : Nat → Nat) (y c : Nat) : Nat → Nat := if c < D y then sU D y c else D
def dM (D : Nat → Nat) (M : Nat → Bool) (y c : Nat) : Nat → Bool := if c < D y then sU M y true else M
theorem dD_le (D : Nat → Nat) (y c x : Nat) : dD D y c x ≤ D x := by
  unfold dD
  split
  · rename_i h
    unfold sU
    split
    · rename_i e; subst e; omega
    · exact Nat.le_refl _
  · exact Nat.le_refl _
theorem dD_at (D : Nat → Nat) (y c : Nat) : dD D y c y ≤ c := by
  unfold dD
  split
  · rw [sU_eq]; exact Nat.le_refl _
  · omega
theorem dM_of {D : Nat → Nat} {M : Nat → Bool} {y c x : Nat} (h : dM D M y c x = false) : M x = false ∧ dD D y c x = D x := by
  unfold dM at h
  unfold dD
  split at h
  · rename_i hc
    by_cases e : x = y
    · subst e; rw [sU_eq] at h; cases h
    · rw [sU_ne e] at h
      rw [if_pos hc, sU_ne e]
      exact ⟨h, rfl⟩
  · rename_i hc
    rw [if_neg hc]
    exact ⟨h, rfl⟩
theorem dM_or {D : Nat → Nat} {M : Nat → Bool} {y c x : Nat} (h : dM D M y c x = true) : (M x = true ∧ (x ≠ y ∨ D y ≤ c)) ∨ (x = y ∧ c < D y) := by
  unfold dM at h
  split at h
  · rename_i hc
    by_cases e : x = y
    · exact Or.inr ⟨e, hc⟩
    · rw [sU_ne e] at h
      exact Or.inl ⟨h, Or.inl e⟩
  · exact Or.inl ⟨h, Or.inr (by omega)⟩
theorem dD_ne {D : Nat → Nat} {y c x : Nat} (h : x ≠ y ∨ D y ≤ c) : dD D y c x = D x := by
  unfold dD
  split
  · rename_i hc
    rcases h with h | h
    · exact sU_ne h
    · omega
  · rfl
theorem dD_new {D : Nat → Nat} {y c : Nat} (h : c < D y) : dD D y c y = c := by
  unfold dD
  rw [if_pos h, sU_eq]
section GI
variable {es : Nat → Nat → Option Nat} {m N F : Nat} {wt : Nat → Nat} {s u k y : Nat} {D : Nat → Nat} {M : Nat → Bool}
/-- D: labels below F; M: those whose streets are still to be gone -/
def gi_F (N m F : Nat) (es : Nat → Nat → Option Nat) (wt : Nat → Nat) (s : Nat) (D : Nat → Nat) (M : Nat → Bool) : Prop :=
  D s = 0 ∧ (∀ x, x < N → D x ≤ F) ∧ (∀ x, x < N → M x = true → D x < F) ∧ (∀ x, x < N → D x < F → gw_way es m wt s x (D x)) ∧ ∀ x, x < N → M x = false → D x < F → ∀ a, a < m → ∀ y, es x a = some y → D y ≤ D x + wt a
/-- the same while u's first k streets are gone -/
def gi_P (N m F : Nat) (es : Nat → Nat → Option Nat) (wt : Nat → Nat) (s : Nat) (D : Nat → Nat) (M : Nat → Bool) (u k : Nat) : Prop :=
  D s = 0 ∧ (∀ x, x < N → D x ≤ F) ∧ (∀ x, x < N → M x = true → D x < F) ∧ (∀ x, x < N → D x < F → gw_way es m wt s x (D x)) ∧ (∀ x, x < N → x ≠ u → M x = false → D x < F → ∀ a, a < m → ∀ y, es x a = some y → D y ≤ D x + wt a) ∧ u < N ∧ D u < F ∧ M u = false ∧ ∀ a, a < k → ∀ y, es u a = some y → D y ≤ D u + wt a
theorem gi_start (hs : s < N) (hF : 0 < F) : gi_F N m F es wt s (sU (fun _ => F) s 0) (sU (fun _ => false) s true) := by
  have hd : ∀ x, x ≠ s → sU (fun _ => F) s 0 x = F := fun x h => sU_ne h
  have hm : ∀ x, x ≠ s → sU (fun _ => false) s true x = false := fun x h => sU_ne h
  refine ⟨sU_eq, fun x _ => ?_, fun x _ h => ?_, fun x _ h => ?_, fun x _ h1 h2 => ?_⟩
  · by_cases e : x = s
    · subst e; rw [sU_eq]; omega
    · rw [hd x e]; exact Nat.le_refl _
  · by_cases e : x = s
    · subst e; rw [sU_eq]; exact hF
    · rw [hm x e] at h; cases h
  · by_cases e : x = s
    · subst e; rw [sU_eq]; exact gw_nil
    · rw [hd x e] at h; omega
  · by_cases e : x = s
    · subst e; rw [sU_eq] at h1; cases h1
    · rw [hd x e] at h2; omega
theorem gi_pop (h : gi_F N m F es wt s D M) (hu : u < N) (hM : M u = true) : gi_P N m F es wt s D (sU M u false) u 0 := by
  obtain ⟨h1, h2, h3, h4, h5⟩ := h
  refine ⟨h1, h2, fun x hx hh => ?_, h4, fun x hx hxu hm => ?_, hu, h3 u hu hM, sU_eq, fun a ha => absurd ha (Nat.not_lt_zero a)⟩
  · by_cases e : x = u
    · subst e; rw [sU_eq] at hh; cases hh
    · rw [sU_ne e] at hh; exact h3 x hx hh
  · rw [sU_ne hxu] at hm
    exact h5 x hx hm
theorem gi_close (h : gi_P N m F es wt s D M u m) : gi_F N m F es wt s D M := by
  obtain ⟨h1, h2, h3, h4, h5, h6, h7, h8, h9⟩ := h
  refine ⟨h1, h2, h3, h4, fun x hx hm hd => ?_⟩
  by_cases e : x = u
  · subst e; exact h9
  · exact h5 x hx e hm hd
theorem gi_none (h : gi_P N m F es wt s D M u k) (he : es u k = none) : gi_P N m F es wt s D M u (k + 1) := by
  obtain ⟨h1, h2, h3, h4, h5, h6, h7, h8, h9⟩ := h
  refine ⟨h1, h2, h3, h4, h5, h6, h7, h8, fun a ha y hy => ?_⟩
  by_cases e : a = k
  · subst e; rw [he] at hy; cases hy
  · exact h9 a (by omega) y hy
theorem gi_off (h : gi_P N m F es wt s D M u k) (hk : k < m) (he : es u k = some y) (hy : y < N) : gi_P N m F es wt s (dD D y (D u + wt k)) (dM D M y (D u + wt k)) u (k + 1) ∧ dD D y (D u + wt k) u = D u := by
  obtain ⟨h1, h2, h3, h4, h5, h6, h7, h8, h9⟩ := h
  have hu : dD D y (D u + wt k) u = D u := dD_ne (by
    by_cases e : u = y
    · subst e; right; omega
    · exact Or.inl e)
  have hle := dD_le D y (D u + wt k)
  refine ⟨⟨?_, fun x hx => Nat.le_trans (hle x) (h2 x hx), fun x hx hm => ?_, fun x hx hd => ?_, fun x hx hxu hm hd a ha z hz => ?_, h6, by rw [hu]; exact h7, ?_, fun a ha z hz => ?_⟩, hu⟩
  · have := hle s; omega
  · rcases dM_or hm with ⟨hm, hh⟩ | ⟨e, hc⟩
    · exact Nat.lt_of_le_of_lt (hle x) (h3 x hx hm)
    · subst e
      rw [dD_new hc]
      exact Nat.lt_of_lt_of_le hc (h2 x hx)
  · by_cases e : x = y ∧ D u + wt k < D y
    · obtain ⟨e, hc⟩ := e
      subst e
      rw [dD_new hc]
      exact gw_step (h4 u h6 h7) hk he
    · rw [dD_ne (by omega)] at hd ⊢
      exact h4 x hx hd
  · obtain ⟨hm1, hm2⟩ := dM_of hm
    rw [hm2] at hd ⊢
    exact Nat.le_trans (hle z) (h5 x hx hxu hm1 hd a ha z hz)
  · cases hm : dM D M y (D u + wt k) u with
    | false => rfl
    | true =>
      rcases dM_or hm with ⟨hm, -⟩ | ⟨e, hc⟩
      · rw [h8] at hm; cases hm
      · subst e; omega
  · rw [hu]
    by_cases e : a = k
    · subst e
      rw [he] at hz
      cases hz
      exact dD_at D y _
    · exact Nat.le_trans (hle z) (h9 a (by omega) z hz)
/-- nobody waits: the labels are the least costs -/
theorem gi_done (hs : s < N) (hN : ∀ x, x < N → ∀ a, a < m → ∀ y, es x a = some y → y < N) (h : gi_F N m F es wt s D M) (hM : ∀ x, x < N → M x = false) {x c : Nat} (hw : gw_way es m wt s x c) : x < N ∧ D x ≤ c := by
  obtain ⟨h1, h2, h3, h4, h5⟩ := h
  refine gw_ind (P := fun x c => x < N ∧ D x ≤ c) ⟨hs, by omega⟩ ?_ hw
  rintro x c a y - ⟨hx, hd⟩ ha he
  have hy := hN x hx a ha y he
  refine ⟨hy, ?_⟩
  rcases Nat.lt_or_ge (D x) F with hf | hf
  · have := h5 x hx (hM x hx) hf a ha y he
    omega
  · have := h2 y hy
    omega
/-- u is the least of those who wait -/
theorem gi_key (hs : s < N) (hN : ∀ x, x < N → ∀ a, a < m → ∀ y, es x a = some y → y < N) (h : gi_F N m F es wt s D M) (hF : 0 < F) (hu : ∀ x, x < N → M x = true → D u ≤ D x) {x c : Nat} (hw : gw_way es m wt s x c) : x < N ∧ ((M x = false ∧ D x < F ∧ D x ≤ c) ∨ D u ≤ c ∨ F ≤ c) := by
  obtain ⟨h1, h2, h3, h4, h5⟩ := h
  have cl : ∀ z c, z < N → D z ≤ c → ((M z = false ∧ D z < F ∧ D z ≤ c) ∨ D u ≤ c ∨ F ≤ c) := by
    intro z c hz hd
    rcases Nat.lt_or_ge (D z) F with hf | hf
    · cases hm : M z with
      | false => exact Or.inl ⟨rfl, hf, hd⟩
      | true => exact Or.inr (Or.inl (Nat.le_trans (hu z hz hm) hd))
    · exact Or.inr (Or.inr (by omega))
  refine gw_ind (P := fun x c => x < N ∧ ((M x = false ∧ D x < F ∧ D x ≤ c) ∨ D u ≤ c ∨ F ≤ c)) ⟨hs, cl s 0 hs (by omega)⟩ ?_ hw
  rintro x c a y - ⟨hx, hd⟩ ha he
  have hy := hN x hx a ha y he
  refine ⟨hy, ?_⟩
  rcases hd with ⟨e1, e2, e3⟩ | e | e
  · have := h5 x hx e1 e2 a ha y he
    exact cl y _ hy (by omega)
  · exact Or.inr (Or.inl (by omega))
  · exact Or.inr (Or.inr (by omega))
/-! the order in which a heap gives them -/
def gj_P (N F : Nat) (D : Nat → Nat) (M : Nat → Bool) (u : Nat) : Prop := (∀ x, x < N → M x = false → D x < F → D x ≤ D u) ∧ ∀ y, y < N → M y = true → D u ≤ D y
def gj_F (N F : Nat) (D : Nat → Nat) (M : Nat → Bool) : Prop := ∀ x y, x < N → y < N → M x = false → D x < F → M y = true → D x ≤ D y
theorem gj_close (h : gj_P N F D M u) : gj_F N F D M := fun x y hx hy h1 h2 h3 => Nat.le_trans (h.1 x hx h1 h2) (h.2 y hy h3)
theorem gj_pop (h : gj_F N F D M) (hu : u < N) (hm : M u = true) (hl : ∀ x, x < N → M x = true → D u ≤ D x) : gj_P N F D (sU M u false) u := by
  refine ⟨fun x hx h1 h2 => ?_, fun y hy h1 => ?_⟩
  · by_cases e : x = u
    · subst e; exact Nat.le_refl _
    · rw [sU_ne e] at h1; exact h x u hx hu h1 h2 hm
  · by_cases e : y = u
    · subst e; exact Nat.le_refl _
    · rw [sU_ne e] at h1; exact hl y hy h1
theorem gj_off {w : Nat} (h : gj_P N F D M u) (hu : dD D y (D u + w) u = D u) : gj_P N F (dD D y (D u + w)) (dM D M y (D u + w)) u := by
  obtain ⟨h1, h2⟩ := h
  rw [gj_P, hu]
  refine ⟨fun x hx e1 e2 => ?_, fun z hz e1 => ?_⟩
  · obtain ⟨m1, m2⟩ := dM_of e1
    rw [m2] at e2 ⊢
    exact h1 x hx m1 e2
  · rcases dM_or e1 with ⟨hm, hh⟩ | ⟨e, hc⟩
    · rw [dD_ne hh]; exact h2 z hz hm
    · subst e; rw [dD_new hc]; omega
/-- those who are done -/
def gk (F : Nat) (D : Nat → Nat) (M : Nat → Bool) : Nat → Bool := fun x => decide (D x < F) && !M x
theorem gk_t {x : Nat} : gk F D M x = true ↔ D x < F ∧ M x = false := by
  unfold gk
  rw [Bool.and_eq_true, decide_eq_true_iff, Bool.not_eq_true']
theorem gk_pop (hu : u < N) (hm : M u = true) (hd : D u < F) : fb_ct (gk F D (sU M u false)) N = fb_ct (gk F D M) N + 1 := by
  have e : gk F D (sU M u false) = (fun k => if k = u then true else gk F D M k) := by
    funext x
    by_cases hx : x = u
    · subst hx
      rw [if_pos rfl, gk_t]
      exact ⟨hd, sU_eq⟩
    · rw [if_neg hx]
      unfold gk
      rw [sU_ne hx]
  have h0 : gk F D M u = false := by
    cases hh : gk F D M u with
    | false => rfl
    | true => have := (gk_t.mp hh).2; rw [hm] at this; cases this
  have := fb_ct_upd (gk F D M) true hu
  rw [h0] at this
  rw [e]
  simpa using this
theorem gk_off {w : Nat} (h : gj_P N F D M u) : ∀ x, x < N → (gk F (dD D y (D u + w)) (dM D M y (D u + w)) x = gk F D M x) := by
  intro x hx
  have key : gk F (dD D y (D u + w)) (dM D M y (D u + w)) x = true ↔ gk F D M x = true := by
    rw [gk_t, gk_t]
    constructor
    · rintro ⟨e1, e2⟩
      obtain ⟨m1, m2⟩ := dM_of e2
      rw [m2] at e1
      exact ⟨e1, m1⟩
    · rintro ⟨e1, e2⟩
      have hx2 : x ≠ y ∨ D y ≤ D u + w := by
        by_cases e : x = y
        · subst e
          right
          have := h.1 x hx e2 e1
          omega
        · exact Or.inl e
      rw [dD_ne hx2]
      refine ⟨e1, ?_⟩
      cases hm : dM D M y (D u + w) x with
      | false => rfl
      | true =>
        rcases dM_or hm with ⟨hm, -⟩ | ⟨e, hc⟩
        · rw [e2] at hm; cases hm
        · omega
  cases h1 : gk F (dD D y (D u + w)) (dM D M y (D u + w)) x <;> cases h2 : gk F D M x <;> simp_all
/-- a queue comes to its end -/
theorem gm_off {x c : Nat} (hx : x < N) : fb_sm (dD D x c) N + fb_ct (dM D M x c) N ≤ fb_sm D N + fb_ct M N := by
  unfold dD dM
  split
  · rename_i hc
    have e1 := fb_sm_upd D c hx
    have e2 := fb_ct_upd M true hx
    have e3 : fb_sm (sU D x c) N = fb_sm (fun k => if k = x then c else D k) N := rfl
    have e4 : fb_ct (sU M x true) N = fb_ct (fun k => if k = x then true else M k) N := rfl
    rw [e3, e4]
    have : (if (true = true) then 1 else 0 : Nat) = 1 := rfl
    rw [this] at e2
    omega
  · exact Nat.le_refl _
theorem gm_pop (hu : u < N) (hm : M u = true) : fb_ct (sU M u false) N + 1 = fb_ct M N := by
  have e2 := fb_ct_upd M false hu
  have e4 : fb_ct (sU M u false) N = fb_ct (fun k => if k = u then false else M k) N := rfl
  rw [e4]
  rw [hm] at e2
  simpa using e2
end GI
